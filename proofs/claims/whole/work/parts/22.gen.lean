-- X2_pop
def bX2_pop_78 (x0 : Nat) (x2 : Int32) (t0 : Int32) (t1 : Nat) (h : ZH) : Option (Int32 × ZH) :=
  (pI h 2 t1 2 t0).bind fun h1 =>
  (gI h1 2 x0 3).bind fun v2 =>
  (pI h1 2 x0 3 (v2 - (nI 1))).bind fun h3 =>
  some (x2, h3)
theorem BX2_pop_78 (b0 : Nat) (x0 : Nat) (x2 : Int32) (t0 : Int32) (t1 : Nat) (h : ZH) : Zr zi b0 YX2_pop 3 78 [(0, .ref (b0 + x0)), (2, .int x2)] [.int t0, .ref (b0 + t1)] h (bX2_pop_78 x0 x2 t0 t1 h) := by
  unfold bX2_pop_78
  refine z_putI 81 zC2 (Nat.le_of_ble_eq_true rfl) rfl rfl rfl w_47 dX2_pop_78 rfl (fun h1 _ => ?_)
  refine z_aload_n 82 0 dX2_pop_81 rfl rfl ?_
  refine z_dup 83 rfl dX2_pop_82 rfl ?_
  refine z_getI 86 zC2 (Nat.le_of_ble_eq_true rfl) rfl w_48 dX2_pop_83 rfl (fun v2 _ => ?_)
  refine z_iconst (nI 1) 87 zki_1 dX2_pop_86 rfl ?_
  refine z_isub 88 dX2_pop_87 rfl ?_
  refine z_putI 91 zC2 (Nat.le_of_ble_eq_true rfl) rfl rfl rfl w_48 dX2_pop_88 rfl (fun h3 _ => ?_)
  refine z_iload_n 92 1 dX2_pop_91 rfl rfl ?_
  exact z_ireturn dX2_pop_92 rfl
def bX2_pop_42 (h : ZH) : Option (Int32 × ZH) :=
  some ((-1 : Int32), h)
theorem BX2_pop_42 (b0 : Nat) (h : ZH) : Zr zi b0 YX2_pop 3 42 [] [] h (bX2_pop_42 h) := by
  unfold bX2_pop_42
  refine z_iconst (-1 : Int32) 43 zki_m1 dX2_pop_42 rfl ?_
  exact z_ireturn dX2_pop_43 rfl
def bX2_pop_20 (h : ZH) : Option (Int32 × ZH) :=
  some ((-1 : Int32), h)
theorem BX2_pop_20 (b0 : Nat) (h : ZH) : Zr zi b0 YX2_pop 3 20 [] [] h (bX2_pop_20 h) := by
  unfold bX2_pop_20
  refine z_iconst (-1 : Int32) 21 zki_m1 dX2_pop_20 rfl ?_
  exact z_ireturn dX2_pop_21 rfl
def fX2_pop (x0 : Nat) (x1 : Nat) (h : ZH) : Option (Int32 × ZH) :=
  if x0 < zn h ∧ zK h x0 = 2 then ((gI h 2 x0 3).bind fun v1 =>
  if v1 ≤ 0 then (bX2_pop_20 h) else
  ((gI h 2 x0 2).bind fun v3 =>
  (fX10_isWithin v3 (nI 0) (nI 9) h).bind fun q4 =>
  if q4.1 = 0 then (bX2_pop_20 q4.2) else
  ((gR q4.2 2 x0 1).bind fun v6 =>
  (gI q4.2 2 x0 2).bind fun v7 =>
  (lI q4.2 14 v6 v7).bind fun v8 =>
  if v8 < 0 then (bX2_pop_42 q4.2) else
  ((zlen q4.2 x1).bind fun v10 =>
  if v8 < v10 then ((lR q4.2 17 x1 v8).bind fun v12 =>
  (gR q4.2 2 x0 0).bind fun v13 =>
  (gI q4.2 2 x0 2).bind fun v14 =>
  (lR q4.2 17 v13 v14).bind fun v15 =>
  (fX1_copyOf v12 v15 q4.2).bind fun h16 =>
  (gI h16 2 x0 2).bind fun v17 =>
  if v17 ≤ 0 then (bX2_pop_78 x0 v8 (nI 9) x0 h16) else
  ((gI h16 2 x0 2).bind fun v19 =>
  bX2_pop_78 x0 v8 (v19 - (nI 1)) x0 h16)) else
  (bX2_pop_42 q4.2))))) else none
theorem kX2_pop {x0 : Nat} {x1 : Nat} {h : ZH} {x : Int32 × ZH} (e : fX2_pop x0 x1 h = some x) : x0 < zn h ∧ zK h x0 = 2 := by
  unfold fX2_pop at e
  exact zguard e
theorem mX2_pop (b0 : Nat) (x0 : Nat) (x1 : Nat) (h : ZH) : ZM zi b0 YX2_pop 3 [.ref (b0 + x0), .ref (b0 + x1)] h (fX2_pop x0 x1 h) := by
  unfold fX2_pop
  refine ZM.of (by decide) rfl (Nat.le_of_ble_eq_true rfl) (fun _ => trivial) ?_
  refine z_sub (lv2 := [(0, .ref (b0 + x0)), (1, .ref (b0 + x1))]) [0, 1] rfl ?_
  refine z_guard (fun _ => ?_)
  refine z_aload_n 1 0 dX2_pop_0 rfl rfl ?_
  refine z_getI 4 zC2 (Nat.le_of_ble_eq_true rfl) rfl w_48 dX2_pop_1 rfl (fun v1 _ => ?_)
  refine z_if_le 20 7 dX2_pop_4 (by decide) rfl (fun c2 => ?_) (fun c2 => ?_)
  · exact z_sub [] rfl (BX2_pop_20 b0 h )
  · refine z_aload_n 8 0 dX2_pop_7 rfl rfl ?_
    refine z_getI 11 zC2 (Nat.le_of_ble_eq_true rfl) rfl w_47 dX2_pop_8 rfl (fun v3 _ => ?_)
    refine z_iconst (nI 0) 12 zki_0 dX2_pop_11 rfl ?_
    refine z_bipush (nI 9) 14 zkb_9 dX2_pop_12 rfl ?_
    refine z_callSNi 17 (mX10_isWithin b0 v3 (nI 0) (nI 9) h) zyX10_isWithin rfl (List.mem_of_getElem? (i := 11) rfl) wt_yX10_isWithin (Nat.le_of_ble_eq_true rfl) rfl (Nat.le_of_ble_eq_true rfl) dX2_pop_14 rfl (fun q4 => ?_)
    refine z_if_ne 22 20 dX2_pop_17 (by decide) rfl (fun c5 => ?_) (fun c5 => ?_)
    · refine z_aload_n 23 0 dX2_pop_22 rfl rfl ?_
      refine z_getR 26 zC2 (Nat.le_of_ble_eq_true rfl) rfl w_46 dX2_pop_23 rfl (fun v6 _ => ?_)
      refine z_aload_n 27 0 dX2_pop_26 rfl rfl ?_
      refine z_getI 30 zC2 (Nat.le_of_ble_eq_true rfl) rfl w_47 dX2_pop_27 rfl (fun v7 _ => ?_)
      refine z_iaload 31 dX2_pop_30 rfl (fun v8 _ => ?_)
      refine z_istore_n (lv2 := [(2, .int v8), (0, .ref (b0 + x0)), (1, .ref (b0 + x1))]) 32 dX2_pop_31 rfl (Nat.le_of_ble_eq_true rfl) rfl ?_
      refine z_iload_n 33 0 dX2_pop_32 rfl rfl ?_
      refine z_if_lt 42 36 dX2_pop_33 (by decide) rfl (fun c9 => ?_) (fun c9 => ?_)
      · exact z_sub [] rfl (BX2_pop_42 b0 q4.2 )
      · refine z_iload_n 37 0 dX2_pop_36 rfl rfl ?_
        refine z_aload_n 38 2 dX2_pop_37 rfl rfl ?_
        refine z_alen 39 dX2_pop_38 rfl (fun v10 _ => ?_)
        refine z_icmp_lt 44 42 dX2_pop_39 (by decide) rfl (fun c11 => ?_) (fun c11 => ?_)
        · refine z_aload_n 45 2 dX2_pop_44 rfl rfl ?_
          refine z_iload_n 46 0 dX2_pop_45 rfl rfl ?_
          refine z_aaload17 47 dX2_pop_46 rfl (fun v12 _ => ?_)
          refine z_aload_n 48 1 dX2_pop_47 rfl rfl ?_
          refine z_getR 51 zC2 (Nat.le_of_ble_eq_true rfl) rfl w_45 dX2_pop_48 rfl (fun v13 _ => ?_)
          refine z_aload_n 52 1 dX2_pop_51 rfl rfl ?_
          refine z_getI 55 zC2 (Nat.le_of_ble_eq_true rfl) rfl w_47 dX2_pop_52 rfl (fun v14 _ => ?_)
          refine z_aaload17 56 dX2_pop_55 rfl (fun v15 _ => ?_)
          refine z_callVv 59 (mX1_copyOf b0 v12 v15 q4.2) zyX1_copyOf rfl w_313 (ci := 1) rfl (Nat.le_of_ble_eq_true rfl) (fun _ e9 => kX1_copyOf e9) wm_yX1_copyOf ws_yX1_copyOf (Nat.le_of_ble_eq_true rfl) rfl (Nat.le_of_ble_eq_true rfl) dX2_pop_56 rfl (fun h16 => ?_)
          refine z_aload_n 60 1 dX2_pop_59 rfl rfl ?_
          refine z_aload_n 61 1 dX2_pop_60 rfl rfl ?_
          refine z_getI 64 zC2 (Nat.le_of_ble_eq_true rfl) rfl w_47 dX2_pop_61 rfl (fun v17 _ => ?_)
          refine z_if_le 76 67 dX2_pop_64 (by decide) rfl (fun c18 => ?_) (fun c18 => ?_)
          · refine z_bipush (nI 9) 78 zkb_9 dX2_pop_76 rfl ?_
            exact z_sub [1, 0] rfl (BX2_pop_78 b0 x0 v8 (nI 9) x0 h16 )
          · refine z_aload_n 68 1 dX2_pop_67 rfl rfl ?_
            refine z_getI 71 zC2 (Nat.le_of_ble_eq_true rfl) rfl w_47 dX2_pop_68 rfl (fun v19 _ => ?_)
            refine z_iconst (nI 1) 72 zki_1 dX2_pop_71 rfl ?_
            refine z_isub 73 dX2_pop_72 rfl ?_
            refine z_goto 78 dX2_pop_73 (by decide) ?_
            exact z_sub [1, 0] rfl (BX2_pop_78 b0 x0 v8 (v19 - (nI 1)) x0 h16 )
        · exact z_sub [] rfl (BX2_pop_42 b0 q4.2 )
    · exact z_sub [] rfl (BX2_pop_20 b0 q4.2 )
-- X2_clear
def fX2_clear (x0 : Nat) (h : ZH) : Option (ZH) :=
  if x0 < zn h ∧ zK h x0 = 2 then ((pI h 2 x0 3 (nI 0)).bind fun h1 =>
  some h1) else none
theorem kX2_clear {x0 : Nat} {h : ZH} {x : ZH} (e : fX2_clear x0 h = some x) : x0 < zn h ∧ zK h x0 = 2 := by
  unfold fX2_clear at e
  exact zguard e
theorem mX2_clear (b0 : Nat) (x0 : Nat) (h : ZH) : ZM zv b0 YX2_clear 1 [.ref (b0 + x0)] h (fX2_clear x0 h) := by
  unfold fX2_clear
  refine ZM.of (by decide) rfl (Nat.le_of_ble_eq_true rfl) (fun _ => trivial) ?_
  refine z_sub (lv2 := [(0, .ref (b0 + x0))]) [0] rfl ?_
  refine z_guard (fun _ => ?_)
  refine z_aload_n 1 0 dX2_clear_0 rfl rfl ?_
  refine z_iconst (nI 0) 2 zki_0 dX2_clear_1 rfl ?_
  refine z_putI 5 zC2 (Nat.le_of_ble_eq_true rfl) rfl rfl rfl w_48 dX2_clear_2 rfl (fun h1 _ => ?_)
  exact z_return dX2_clear_5 rfl
-- X3_init
def fX3_init (x0 : Nat) (h : ZH) : Option (ZH) :=
  if x0 < zn h ∧ zK h x0 = 3 then ((zala h 13 (nI 30)).bind fun q1 =>
  (pR q1.2 3 x0 0 q1.1).bind fun h2 =>
  (zala h2 16 (nI 30)).bind fun q3 =>
  (pR q3.2 3 x0 1 q3.1).bind fun h4 =>
  (pI h4 3 x0 2 (-1 : Int32)).bind fun h5 =>
  some h5) else none
theorem kX3_init {x0 : Nat} {h : ZH} {x : ZH} (e : fX3_init x0 h = some x) : x0 < zn h ∧ zK h x0 = 3 := by
  unfold fX3_init at e
  exact zguard e
theorem mX3_init (b0 : Nat) (x0 : Nat) (h : ZH) : ZM zv b0 YX3_init 2 [.ref (b0 + x0)] h (fX3_init x0 h) := by
  unfold fX3_init
  refine ZM.of (by decide) rfl (Nat.le_of_ble_eq_true rfl) (fun _ => trivial) ?_
  refine z_sub (lv2 := [(0, .ref (b0 + x0))]) [0] rfl ?_
  refine z_guard (fun _ => ?_)
  refine z_aload_n 1 0 dX3_init_0 rfl rfl ?_
  refine z_objInit 4 w_223 wm_Lib_objectInit wc_Lib_objectInit (Nat.le_of_ble_eq_true rfl) (Nat.le_of_ble_eq_true rfl) dX3_init_1 rfl ?_
  refine z_aload_n 5 0 dX3_init_4 rfl rfl ?_
  refine z_bipush (nI 30) 7 zkb_30 dX3_init_5 rfl ?_
  refine z_newA_float 9 wa_float dX3_init_7 rfl (fun q1 => ?_)
  refine z_putF 12 zC3 (Nat.le_of_ble_eq_true rfl) rfl rfl rfl rfl rfl (Or.inl ⟨_, rfl⟩) w_224 dX3_init_9 rfl (fun h2 _ => ?_)
  refine z_aload_n 13 0 dX3_init_12 rfl rfl ?_
  refine z_bipush (nI 30) 15 zkb_30 dX3_init_13 rfl ?_
  refine z_newA_boolean 17 wa_boolean dX3_init_15 rfl (fun q3 => ?_)
  refine z_putF 20 zC3 (Nat.le_of_ble_eq_true rfl) rfl rfl rfl rfl rfl (Or.inl ⟨_, rfl⟩) w_225 dX3_init_17 rfl (fun h4 _ => ?_)
  refine z_aload_n 21 0 dX3_init_20 rfl rfl ?_
  refine z_iconst (-1 : Int32) 22 zki_m1 dX3_init_21 rfl ?_
  refine z_putI 25 zC3 (Nat.le_of_ble_eq_true rfl) rfl rfl rfl w_226 dX3_init_22 rfl (fun h5 _ => ?_)
  exact z_return dX3_init_25 rfl
-- X3_create
def kX3_create_21 (x0 : Nat) (self21 : Int32 × ZH → Option (ZH)) (x3 : Int32) (h : ZH) : Option (ZH) :=
  if (nI 30) ≤ x3 then (some h) else
  ((gR h 3 x0 0).bind fun v2 =>
  (sF h v2 x3 FP.fconst0).bind fun h3 =>
  (gR h3 3 x0 1).bind fun v4 =>
  (sI h3 16 v4 x3 (nI 0)).bind fun h5 =>
  self21 ((x3 + (nI 1)), h5))
def lX3_create_21 (x0 : Nat) : (Int32 × ZH → Option (ZH)) → Int32 × ZH → Option (ZH) := fun self s => kX3_create_21 x0 self s.1 s.2
theorem KX3_create_21 (b0 : Nat) (x0 : Nat) (self21 : Int32 × ZH → Option (ZH)) (hself21 : ∀ (y3 : Int32) (hh : ZH), Zr zv b0 YX3_create 2 21 [(0, .ref (b0 + x0)), (3, .int y3)] [] hh (self21 (y3, hh))) (x3 : Int32) (h : ZH) : Zr zv b0 YX3_create 2 21 [(0, .ref (b0 + x0)), (3, .int x3)] [] h (kX3_create_21 x0 self21 x3 h) := by
  unfold kX3_create_21
  refine z_iload_n 22 1 dX3_create_21 rfl rfl ?_
  refine z_bipush (nI 30) 24 zkb_30 dX3_create_22 rfl ?_
  refine z_icmp_ge 47 27 dX3_create_24 (by decide) rfl (fun c1 => ?_) (fun c1 => ?_)
  · exact z_return dX3_create_47 rfl
  · refine z_aload_n 28 0 dX3_create_27 rfl rfl ?_
    refine z_getR 31 zC3 (Nat.le_of_ble_eq_true rfl) rfl w_224 dX3_create_28 rfl (fun v2 _ => ?_)
    refine z_iload_n 32 1 dX3_create_31 rfl rfl ?_
    refine z_fconst0 33 dX3_create_32 rfl ?_
    refine z_fastore 34 dX3_create_33 rfl (fun h3 _ => ?_)
    refine z_aload_n 35 0 dX3_create_34 rfl rfl ?_
    refine z_getR 38 zC3 (Nat.le_of_ble_eq_true rfl) rfl w_225 dX3_create_35 rfl (fun v4 _ => ?_)
    refine z_iload_n 39 1 dX3_create_38 rfl rfl ?_
    refine z_iconst (nI 0) 40 zki_0 dX3_create_39 rfl ?_
    refine z_zastore 41 dX3_create_40 rfl (fun h5 _ => ?_)
    refine z_iinc (lv2 := [(3, .int (x3 + (nI 1))), (0, .ref (b0 + x0))]) (nI 1) 44 1 dX3_create_41 rfl rfl zki_1 (Nat.le_of_ble_eq_true rfl) rfl ?_
    refine z_goto 21 dX3_create_44 (by decide) ?_
    exact z_sub [1, 0] rfl (hself21 (x3 + (nI 1)) h5)
theorem BX3_create_21 (b0 : Nat) (x0 : Nat) (n : Nat) (x3 : Int32) (h : ZH) : Zr zv b0 YX3_create 2 21 [(0, .ref (b0 + x0)), (3, .int x3)] [] h (zloop (lX3_create_21 x0) n (x3, h)) :=
  zloop_Zr (fun s => [(0, .ref (b0 + x0)), (3, .int s.1)]) (fun _ => []) (fun s => s.2) (lX3_create_21 x0) (fun self hs s => KX3_create_21 b0 x0 self (fun y3 hh => hs (y3, hh)) s.1 s.2) n (x3, h)
def fX3_create (x0 : Nat) (x1 : Int32) (x2 : Int32) (h : ZH) : Option (ZH) :=
  if x0 < zn h ∧ zK h x0 = 3 then ((pI h 3 x0 2 x1).bind fun h1 =>
  (pI h1 3 x0 3 (jmmax (nI 0) (jmmin x2 (nI 30)))).bind fun h2 =>
  zloop (lX3_create_21 x0) zfu ((nI 0), h2)) else none
theorem kX3_create {x0 : Nat} {x1 : Int32} {x2 : Int32} {h : ZH} {x : ZH} (e : fX3_create x0 x1 x2 h = some x) : x0 < zn h ∧ zK h x0 = 3 := by
  unfold fX3_create at e
  exact zguard e
theorem mX3_create (b0 : Nat) (x0 : Nat) (x1 : Int32) (x2 : Int32) (h : ZH) : ZM zv b0 YX3_create 2 [.ref (b0 + x0), .int x1, .int x2] h (fX3_create x0 x1 x2 h) := by
  unfold fX3_create
  refine ZM.of (by decide) rfl (Nat.le_of_ble_eq_true rfl) (fun _ => trivial) ?_
  refine z_sub (lv2 := [(0, .ref (b0 + x0)), (1, .int x1), (2, .int x2)]) [0, 1, 2] rfl ?_
  refine z_guard (fun _ => ?_)
  refine z_aload_n 1 0 dX3_create_0 rfl rfl ?_
  refine z_iload_n 2 1 dX3_create_1 rfl rfl ?_
  refine z_putI 5 zC3 (Nat.le_of_ble_eq_true rfl) rfl rfl rfl w_226 dX3_create_2 rfl (fun h1 _ => ?_)
  refine z_aload_n 6 0 dX3_create_5 rfl rfl ?_
  refine z_iconst (nI 0) 7 zki_0 dX3_create_6 rfl ?_
  refine z_iload_n 8 2 dX3_create_7 rfl rfl ?_
  refine z_bipush (nI 30) 10 zkb_30 dX3_create_8 rfl ?_
  refine z_mmin 13 w_954 wt_Lib_Math_min_name wi_RJ9 wc_Lib_Math_min_name (Nat.le_of_ble_eq_true rfl) (Nat.le_of_ble_eq_true rfl) dX3_create_10 rfl ?_
  refine z_mmax 16 w_955 wt_Lib_Math_max_name wi_RJ9 wc_Lib_Math_max_name (Nat.le_of_ble_eq_true rfl) (Nat.le_of_ble_eq_true rfl) dX3_create_13 rfl ?_
  refine z_putI 19 zC3 (Nat.le_of_ble_eq_true rfl) rfl rfl rfl w_227 dX3_create_16 rfl (fun h2 _ => ?_)
  refine z_iconst (nI 0) 20 zki_0 dX3_create_19 rfl ?_
  refine z_istore_n (lv2 := [(3, .int (nI 0)), (0, .ref (b0 + x0)), (1, .int x1), (2, .int x2)]) 21 dX3_create_20 rfl (Nat.le_of_ble_eq_true rfl) rfl ?_
  exact z_sub [1, 0] rfl (BX3_create_21 b0 x0 zfu (nI 0) h2)
-- X3_exists
def bX3_exists_13 (t0 : Int32) (h : ZH) : Option (Int32 × ZH) :=
  if t0 = 0 ∨ t0 = 1 then some (t0, h) else none
theorem BX3_exists_13 (b0 : Nat) (t0 : Int32) (h : ZH) : Zr zi b0 YX3_exists 1 13 [] [.int t0] h (bX3_exists_13 t0 h) := by
  unfold bX3_exists_13
  exact z_zreturn dX3_exists_13 rfl
def fX3_exists (x0 : Nat) (h : ZH) : Option (Int32 × ZH) :=
  if x0 < zn h ∧ zK h x0 = 3 then ((gI h 3 x0 2).bind fun v1 =>
  if v1 = (-1 : Int32) then (bX3_exists_13 (nI 0) h) else
  (bX3_exists_13 (nI 1) h)) else none
theorem kX3_exists {x0 : Nat} {h : ZH} {x : Int32 × ZH} (e : fX3_exists x0 h = some x) : x0 < zn h ∧ zK h x0 = 3 := by
  unfold fX3_exists at e
  exact zguard e
theorem mX3_exists (b0 : Nat) (x0 : Nat) (h : ZH) : ZM zi b0 YX3_exists 1 [.ref (b0 + x0)] h (fX3_exists x0 h) := by
  unfold fX3_exists
  refine ZM.of (by decide) rfl (Nat.le_of_ble_eq_true rfl) (fun _ => trivial) ?_
  refine z_sub (lv2 := [(0, .ref (b0 + x0))]) [0] rfl ?_
  refine z_guard (fun _ => ?_)
  refine z_aload_n 1 0 dX3_exists_0 rfl rfl ?_
  refine z_getI 4 zC3 (Nat.le_of_ble_eq_true rfl) rfl w_226 dX3_exists_1 rfl (fun v1 _ => ?_)
  refine z_iconst (-1 : Int32) 5 zki_m1 dX3_exists_4 rfl ?_
  refine z_icmp_eq 12 8 dX3_exists_5 (by decide) rfl (fun c2 => ?_) (fun c2 => ?_)
  · refine z_iconst (nI 0) 13 zki_0 dX3_exists_12 rfl ?_
    exact z_sub [] rfl (BX3_exists_13 b0 (nI 0) h )
  · refine z_iconst (nI 1) 9 zki_1 dX3_exists_8 rfl ?_
    refine z_goto 13 dX3_exists_9 (by decide) ?_
    exact z_sub [] rfl (BX3_exists_13 b0 (nI 1) h )
-- X3_length
def fX3_length (x0 : Nat) (h : ZH) : Option (Int32 × ZH) :=
  if x0 < zn h ∧ zK h x0 = 3 then ((gI h 3 x0 3).bind fun v1 =>
  some (v1, h)) else none
theorem kX3_length {x0 : Nat} {h : ZH} {x : Int32 × ZH} (e : fX3_length x0 h = some x) : x0 < zn h ∧ zK h x0 = 3 := by
  unfold fX3_length at e
  exact zguard e
theorem mX3_length (b0 : Nat) (x0 : Nat) (h : ZH) : ZM zi b0 YX3_length 1 [.ref (b0 + x0)] h (fX3_length x0 h) := by
  unfold fX3_length
  refine ZM.of (by decide) rfl (Nat.le_of_ble_eq_true rfl) (fun _ => trivial) ?_
  refine z_sub (lv2 := [(0, .ref (b0 + x0))]) [0] rfl ?_
  refine z_guard (fun _ => ?_)
  refine z_aload_n 1 0 dX3_length_0 rfl rfl ?_
  refine z_getI 4 zC3 (Nat.le_of_ble_eq_true rfl) rfl w_227 dX3_length_1 rfl (fun v1 _ => ?_)
  exact z_ireturn dX3_length_4 rfl
-- X3_isFloat
def bX3_isFloat_13 (t0 : Int32) (h : ZH) : Option (Int32 × ZH) :=
  if t0 = 0 ∨ t0 = 1 then some (t0, h) else none
theorem BX3_isFloat_13 (b0 : Nat) (t0 : Int32) (h : ZH) : Zr zi b0 YX3_isFloat 1 13 [] [.int t0] h (bX3_isFloat_13 t0 h) := by
  unfold bX3_isFloat_13
  exact z_zreturn dX3_isFloat_13 rfl
def fX3_isFloat (x0 : Nat) (h : ZH) : Option (Int32 × ZH) :=
  if x0 < zn h ∧ zK h x0 = 3 then ((gI h 3 x0 2).bind fun v1 =>
  if v1 = (nI 2) then (bX3_isFloat_13 (nI 1) h) else
  (bX3_isFloat_13 (nI 0) h)) else none
theorem kX3_isFloat {x0 : Nat} {h : ZH} {x : Int32 × ZH} (e : fX3_isFloat x0 h = some x) : x0 < zn h ∧ zK h x0 = 3 := by
  unfold fX3_isFloat at e
  exact zguard e
theorem mX3_isFloat (b0 : Nat) (x0 : Nat) (h : ZH) : ZM zi b0 YX3_isFloat 1 [.ref (b0 + x0)] h (fX3_isFloat x0 h) := by
  unfold fX3_isFloat
  refine ZM.of (by decide) rfl (Nat.le_of_ble_eq_true rfl) (fun _ => trivial) ?_
  refine z_sub (lv2 := [(0, .ref (b0 + x0))]) [0] rfl ?_
  refine z_guard (fun _ => ?_)
  refine z_aload_n 1 0 dX3_isFloat_0 rfl rfl ?_
  refine z_getI 4 zC3 (Nat.le_of_ble_eq_true rfl) rfl w_226 dX3_isFloat_1 rfl (fun v1 _ => ?_)
  refine z_iconst (nI 2) 5 zki_2 dX3_isFloat_4 rfl ?_
  refine z_icmp_ne 12 8 dX3_isFloat_5 (by decide) rfl (fun c2 => ?_) (fun c2 => ?_)
  · refine z_iconst (nI 0) 13 zki_0 dX3_isFloat_12 rfl ?_
    exact z_sub [] rfl (BX3_isFloat_13 b0 (nI 0) h )
  · refine z_iconst (nI 1) 9 zki_1 dX3_isFloat_8 rfl ?_
    refine z_goto 13 dX3_isFloat_9 (by decide) ?_
    exact z_sub [] rfl (BX3_isFloat_13 b0 (nI 1) h )
-- X3_hasIndex
def bX3_hasIndex_23 (t0 : Int32) (h : ZH) : Option (Int32 × ZH) :=
  if t0 = 0 ∨ t0 = 1 then some (t0, h) else none
theorem BX3_hasIndex_23 (b0 : Nat) (t0 : Int32) (h : ZH) : Zr zi b0 YX3_hasIndex 1 23 [] [.int t0] h (bX3_hasIndex_23 t0 h) := by
  unfold bX3_hasIndex_23
  exact z_zreturn dX3_hasIndex_23 rfl
def bX3_hasIndex_22 (h : ZH) : Option (Int32 × ZH) :=
  bX3_hasIndex_23 (nI 0) h
theorem BX3_hasIndex_22 (b0 : Nat) (h : ZH) : Zr zi b0 YX3_hasIndex 1 22 [] [] h (bX3_hasIndex_22 h) := by
  unfold bX3_hasIndex_22
  refine z_iconst (nI 0) 23 zki_0 dX3_hasIndex_22 rfl ?_
  exact z_sub [] rfl (BX3_hasIndex_23 b0 (nI 0) h )
def fX3_hasIndex (x0 : Nat) (x1 : Int32) (h : ZH) : Option (Int32 × ZH) :=
  if x0 < zn h ∧ zK h x0 = 3 then (if x1 < 0 then (bX3_hasIndex_22 h) else
  ((gI h 3 x0 3).bind fun v2 =>
  if v2 ≤ x1 then (bX3_hasIndex_22 h) else
  (if (nI 30) ≤ x1 then (bX3_hasIndex_22 h) else
  (bX3_hasIndex_23 (nI 1) h)))) else none
theorem kX3_hasIndex {x0 : Nat} {x1 : Int32} {h : ZH} {x : Int32 × ZH} (e : fX3_hasIndex x0 x1 h = some x) : x0 < zn h ∧ zK h x0 = 3 := by
  unfold fX3_hasIndex at e
  exact zguard e
theorem mX3_hasIndex (b0 : Nat) (x0 : Nat) (x1 : Int32) (h : ZH) : ZM zi b0 YX3_hasIndex 1 [.ref (b0 + x0), .int x1] h (fX3_hasIndex x0 x1 h) := by
  unfold fX3_hasIndex
  refine ZM.of (by decide) rfl (Nat.le_of_ble_eq_true rfl) (fun _ => trivial) ?_
  refine z_sub (lv2 := [(0, .ref (b0 + x0)), (1, .int x1)]) [0, 1] rfl ?_
  refine z_guard (fun _ => ?_)
  refine z_iload_n 1 1 dX3_hasIndex_0 rfl rfl ?_
  refine z_if_lt 22 4 dX3_hasIndex_1 (by decide) rfl (fun c1 => ?_) (fun c1 => ?_)
  · exact z_sub [] rfl (BX3_hasIndex_22 b0 h )
  · refine z_iload_n 5 1 dX3_hasIndex_4 rfl rfl ?_
    refine z_aload_n 6 0 dX3_hasIndex_5 rfl rfl ?_
    refine z_getI 9 zC3 (Nat.le_of_ble_eq_true rfl) rfl w_227 dX3_hasIndex_6 rfl (fun v2 _ => ?_)
    refine z_icmp_ge 22 12 dX3_hasIndex_9 (by decide) rfl (fun c3 => ?_) (fun c3 => ?_)
    · exact z_sub [] rfl (BX3_hasIndex_22 b0 h )
    · refine z_iload_n 13 1 dX3_hasIndex_12 rfl rfl ?_
      refine z_bipush (nI 30) 15 zkb_30 dX3_hasIndex_13 rfl ?_
      refine z_icmp_ge 22 18 dX3_hasIndex_15 (by decide) rfl (fun c4 => ?_) (fun c4 => ?_)
      · exact z_sub [] rfl (BX3_hasIndex_22 b0 h )
      · refine z_iconst (nI 1) 19 zki_1 dX3_hasIndex_18 rfl ?_
        refine z_goto 23 dX3_hasIndex_19 (by decide) ?_
        exact z_sub [] rfl (BX3_hasIndex_23 b0 (nI 1) h )
-- X3_converted
def bX3_converted_29 (t0 : UInt32) (h : ZH) : Option (UInt32 × ZH) :=
  some (t0, h)
theorem BX3_converted_29 (b0 : Nat) (t0 : UInt32) (h : ZH) : Zr zf b0 YX3_converted 1 29 [] [.float t0] h (bX3_converted_29 t0 h) := by
  unfold bX3_converted_29
  exact z_freturn dX3_converted_29 rfl
def fX3_converted (x0 : Nat) (x1 : Int64) (h : ZH) : Option (UInt32 × ZH) :=
  if x0 < zn h ∧ zK h x0 = 3 then ((gI h 3 x0 2).bind fun v1 =>
  if v1 = 0 then (some ((FP.i2f (ji2b (x1.toInt32))), h)) else
  ((gI h 3 x0 2).bind fun v3 =>
  if v3 = (nI 1) then (bX3_converted_29 (FP.i2f (ji2c (x1.toInt32))) h) else
  (bX3_converted_29 (FP.l2f x1) h))) else none
theorem kX3_converted {x0 : Nat} {x1 : Int64} {h : ZH} {x : UInt32 × ZH} (e : fX3_converted x0 x1 h = some x) : x0 < zn h ∧ zK h x0 = 3 := by
  unfold fX3_converted at e
  exact zguard e
theorem mX3_converted (b0 : Nat) (x0 : Nat) (x1 : Int64) (h : ZH) : ZM zf b0 YX3_converted 1 [.ref (b0 + x0), .long x1] h (fX3_converted x0 x1 h) := by
  unfold fX3_converted
  refine ZM.of (by decide) rfl (Nat.le_of_ble_eq_true rfl) (fun _ => trivial) ?_
  refine z_sub (lv2 := [(0, .ref (b0 + x0)), (1, .long x1)]) [0, 1] rfl ?_
  refine z_guard (fun _ => ?_)
  refine z_aload_n 1 0 dX3_converted_0 rfl rfl ?_
  refine z_getI 4 zC3 (Nat.le_of_ble_eq_true rfl) rfl w_226 dX3_converted_1 rfl (fun v1 _ => ?_)
  refine z_if_ne 12 7 dX3_converted_4 (by decide) rfl (fun c2 => ?_) (fun c2 => ?_)
  · refine z_aload_n 13 0 dX3_converted_12 rfl rfl ?_
    refine z_getI 16 zC3 (Nat.le_of_ble_eq_true rfl) rfl w_226 dX3_converted_13 rfl (fun v3 _ => ?_)
    refine z_iconst (nI 1) 17 zki_1 dX3_converted_16 rfl ?_
    refine z_icmp_ne 27 20 dX3_converted_17 (by decide) rfl (fun c4 => ?_) (fun c4 => ?_)
    · refine z_lload_n 28 1 dX3_converted_27 rfl rfl ?_
      refine z_l2f 29 dX3_converted_28 rfl ?_
      exact z_sub [] rfl (BX3_converted_29 b0 (FP.l2f x1) h )
    · refine z_lload_n 21 1 dX3_converted_20 rfl rfl ?_
      refine z_l2i 22 dX3_converted_21 rfl ?_
      refine z_i2c 23 dX3_converted_22 rfl ?_
      refine z_i2f 24 dX3_converted_23 rfl ?_
      refine z_goto 29 dX3_converted_24 (by decide) ?_
      exact z_sub [] rfl (BX3_converted_29 b0 (FP.i2f (ji2c (x1.toInt32))) h )
  · refine z_lload_n 8 1 dX3_converted_7 rfl rfl ?_
    refine z_l2i 9 dX3_converted_8 rfl ?_
    refine z_i2b 10 dX3_converted_9 rfl ?_
    refine z_i2f 11 dX3_converted_10 rfl ?_
    exact z_freturn dX3_converted_11 rfl
-- X3_set
def bX3_set_43 (h : ZH) : Option (ZH) :=
  some h
theorem BX3_set_43 (b0 : Nat) (h : ZH) : Zr zv b0 YX3_set 2 43 [] [] h (bX3_set_43 h) := by
  unfold bX3_set_43
  exact z_return dX3_set_43 rfl
def bX3_set_35 (x0 : Nat) (x1 : Int32) (t0 : UInt32) (t1 : Int32) (t2 : Nat) (h : ZH) : Option (ZH) :=
  (sF h t2 t1 t0).bind fun h1 =>
  (gR h1 3 x0 1).bind fun v2 =>
  (sI h1 16 v2 x1 (nI 0)).bind fun h3 =>
  bX3_set_43 h3
theorem BX3_set_35 (b0 : Nat) (x0 : Nat) (x1 : Int32) (t0 : UInt32) (t1 : Int32) (t2 : Nat) (h : ZH) : Zr zv b0 YX3_set 2 35 [(0, .ref (b0 + x0)), (1, .int x1)] [.float t0, .int t1, .ref (b0 + t2)] h (bX3_set_35 x0 x1 t0 t1 t2 h) := by
  unfold bX3_set_35
  refine z_fastore 36 dX3_set_35 rfl (fun h1 _ => ?_)
  refine z_aload_n 37 0 dX3_set_36 rfl rfl ?_
  refine z_getR 40 zC3 (Nat.le_of_ble_eq_true rfl) rfl w_225 dX3_set_37 rfl (fun v2 _ => ?_)
  refine z_iload_n 41 1 dX3_set_40 rfl rfl ?_
  refine z_iconst (nI 0) 42 zki_0 dX3_set_41 rfl ?_
  refine z_zastore 43 dX3_set_42 rfl (fun h3 _ => ?_)
  exact z_sub [] rfl (BX3_set_43 b0 h3 )
def fX3_set (x0 : Nat) (x1 : Int32) (x2 : Int32) (h : ZH) : Option (ZH) :=
  if x0 < zn h ∧ zK h x0 = 3 then ((fX3_hasIndex x0 x1 h).bind fun q1 =>
  if q1.1 = 0 then (bX3_set_43 q1.2) else
  ((gR q1.2 3 x0 0).bind fun v3 =>
  (gI q1.2 3 x0 2).bind fun v4 =>
  if v4 = (nI 2) then (if FP.fdiv (FP.i2f x2) (1090519040 : UInt32) &&& 0x7fffffff ≤ 0x7f800000 then (bX3_set_35 x0 x1 (FP.fdiv (FP.i2f x2) (1090519040 : UInt32)) x1 v3 q1.2) else none) else
  ((fX3_converted x0 (x2.toInt64) q1.2).bind fun q6 =>
  bX3_set_35 x0 x1 q6.1 x1 v3 q6.2))) else none
theorem kX3_set {x0 : Nat} {x1 : Int32} {x2 : Int32} {h : ZH} {x : ZH} (e : fX3_set x0 x1 x2 h = some x) : x0 < zn h ∧ zK h x0 = 3 := by
  unfold fX3_set at e
  exact zguard e
theorem mX3_set (b0 : Nat) (x0 : Nat) (x1 : Int32) (x2 : Int32) (h : ZH) : ZM zv b0 YX3_set 2 [.ref (b0 + x0), .int x1, .int x2] h (fX3_set x0 x1 x2 h) := by
  unfold fX3_set
  refine ZM.of (by decide) rfl (Nat.le_of_ble_eq_true rfl) (fun _ => trivial) ?_
  refine z_sub (lv2 := [(0, .ref (b0 + x0)), (1, .int x1), (2, .int x2)]) [0, 1, 2] rfl ?_
  refine z_guard (fun _ => ?_)
  refine z_aload_n 1 0 dX3_set_0 rfl rfl ?_
  refine z_iload_n 2 1 dX3_set_1 rfl rfl ?_
  refine z_callVi 5 (mX3_hasIndex b0 x0 x1 h) zyX3_hasIndex rfl w_972 (ci := 3) rfl (Nat.le_of_ble_eq_true rfl) (fun _ e9 => kX3_hasIndex e9) wm_yX3_hasIndex ws_yX3_hasIndex (Nat.le_of_ble_eq_true rfl) rfl (Nat.le_of_ble_eq_true rfl) dX3_set_2 rfl (fun q1 => ?_)
  refine z_if_eq 43 8 dX3_set_5 (by decide) rfl (fun c2 => ?_) (fun c2 => ?_)
  · exact z_sub [] rfl (BX3_set_43 b0 q1.2 )
  · refine z_aload_n 9 0 dX3_set_8 rfl rfl ?_
    refine z_getR 12 zC3 (Nat.le_of_ble_eq_true rfl) rfl w_224 dX3_set_9 rfl (fun v3 _ => ?_)
    refine z_iload_n 13 1 dX3_set_12 rfl rfl ?_
    refine z_aload_n 14 0 dX3_set_13 rfl rfl ?_
    refine z_getI 17 zC3 (Nat.le_of_ble_eq_true rfl) rfl w_226 dX3_set_14 rfl (fun v4 _ => ?_)
    refine z_iconst (nI 2) 18 zki_2 dX3_set_17 rfl ?_
    refine z_icmp_ne 29 21 dX3_set_18 (by decide) rfl (fun c5 => ?_) (fun c5 => ?_)
    · refine z_aload_n 30 0 dX3_set_29 rfl rfl ?_
      refine z_iload_n 31 2 dX3_set_30 rfl rfl ?_
      refine z_i2l 32 dX3_set_31 rfl ?_
      refine z_callVf 35 (mX3_converted b0 x0 (x2.toInt64) q1.2) zyX3_converted rfl w_974 (ci := 3) rfl (Nat.le_of_ble_eq_true rfl) (fun _ e9 => kX3_converted e9) wm_yX3_converted ws_yX3_converted (Nat.le_of_ble_eq_true rfl) rfl (Nat.le_of_ble_eq_true rfl) dX3_set_32 rfl (fun q6 => ?_)
      exact z_sub [0, 1] rfl (BX3_set_35 b0 x0 x1 q6.1 x1 v3 q6.2 )
    · refine z_iload_n 22 2 dX3_set_21 rfl rfl ?_
      refine z_i2f 23 dX3_set_22 rfl ?_
      refine z_ldcf 25 w_973 dX3_set_23 rfl ?_
      refine z_fdiv 26 dX3_set_25 rfl ?_
      refine z_goto 35 dX3_set_26 (by decide) ?_
      exact z_sub [0, 1] rfl (BX3_set_35 b0 x0 x1 (FP.fdiv (FP.i2f x2) (1090519040 : UInt32)) x1 v3 q1.2 )
-- X3_makeNaN
def bX3_makeNaN_15 (h : ZH) : Option (ZH) :=
  some h
theorem BX3_makeNaN_15 (b0 : Nat) (h : ZH) : Zr zv b0 YX3_makeNaN 2 15 [] [] h (bX3_makeNaN_15 h) := by
  unfold bX3_makeNaN_15
  exact z_return dX3_makeNaN_15 rfl
def fX3_makeNaN (x0 : Nat) (x1 : Int32) (h : ZH) : Option (ZH) :=
  if x0 < zn h ∧ zK h x0 = 3 then ((fX3_hasIndex x0 x1 h).bind fun q1 =>
  if q1.1 = 0 then (bX3_makeNaN_15 q1.2) else
  ((gR q1.2 3 x0 1).bind fun v3 =>
  (sI q1.2 16 v3 x1 (nI 1)).bind fun h4 =>
  bX3_makeNaN_15 h4)) else none
theorem kX3_makeNaN {x0 : Nat} {x1 : Int32} {h : ZH} {x : ZH} (e : fX3_makeNaN x0 x1 h = some x) : x0 < zn h ∧ zK h x0 = 3 := by
  unfold fX3_makeNaN at e
  exact zguard e
theorem mX3_makeNaN (b0 : Nat) (x0 : Nat) (x1 : Int32) (h : ZH) : ZM zv b0 YX3_makeNaN 2 [.ref (b0 + x0), .int x1] h (fX3_makeNaN x0 x1 h) := by
  unfold fX3_makeNaN
  refine ZM.of (by decide) rfl (Nat.le_of_ble_eq_true rfl) (fun _ => trivial) ?_
  refine z_sub (lv2 := [(0, .ref (b0 + x0)), (1, .int x1)]) [0, 1] rfl ?_
  refine z_guard (fun _ => ?_)
  refine z_aload_n 1 0 dX3_makeNaN_0 rfl rfl ?_
  refine z_iload_n 2 1 dX3_makeNaN_1 rfl rfl ?_
  refine z_callVi 5 (mX3_hasIndex b0 x0 x1 h) zyX3_hasIndex rfl w_972 (ci := 3) rfl (Nat.le_of_ble_eq_true rfl) (fun _ e9 => kX3_hasIndex e9) wm_yX3_hasIndex ws_yX3_hasIndex (Nat.le_of_ble_eq_true rfl) rfl (Nat.le_of_ble_eq_true rfl) dX3_makeNaN_2 rfl (fun q1 => ?_)
  refine z_if_eq 15 8 dX3_makeNaN_5 (by decide) rfl (fun c2 => ?_) (fun c2 => ?_)
  · exact z_sub [] rfl (BX3_makeNaN_15 b0 q1.2 )
  · refine z_aload_n 9 0 dX3_makeNaN_8 rfl rfl ?_
    refine z_getR 12 zC3 (Nat.le_of_ble_eq_true rfl) rfl w_225 dX3_makeNaN_9 rfl (fun v3 _ => ?_)
    refine z_iload_n 13 1 dX3_makeNaN_12 rfl rfl ?_
    refine z_iconst (nI 1) 14 zki_1 dX3_makeNaN_13 rfl ?_
    refine z_zastore 15 dX3_makeNaN_14 rfl (fun h4 _ => ?_)
    exact z_sub [] rfl (BX3_makeNaN_15 b0 h4 )
-- X3_order
def bX3_order_75 (t0 : Int32) (h : ZH) : Option (Int32 × ZH) :=
  some (t0, h)
theorem BX3_order_75 (b0 : Nat) (t0 : Int32) (h : ZH) : Zr zi b0 YX3_order 2 75 [] [.int t0] h (bX3_order_75 t0 h) := by
  unfold bX3_order_75
  exact z_ireturn dX3_order_75 rfl
def bX3_order_34 (h : ZH) : Option (Int32 × ZH) :=
  some ((nI 3), h)
theorem BX3_order_34 (b0 : Nat) (h : ZH) : Zr zi b0 YX3_order 2 34 [] [] h (bX3_order_34 h) := by
  unfold bX3_order_34
  refine z_iconst (nI 3) 35 zki_3 dX3_order_34 rfl ?_
  exact z_ireturn dX3_order_35 rfl
def fX3_order (x0 : Nat) (x1 : Int32) (x2 : Int32) (h : ZH) : Option (Int32 × ZH) :=
  if x0 < zn h ∧ zK h x0 = 3 then ((fX3_hasIndex x0 x1 h).bind fun q1 =>
  if q1.1 = 0 then (bX3_order_34 q1.2) else
  ((fX3_hasIndex x0 x2 q1.2).bind fun q3 =>
  if q3.1 = 0 then (bX3_order_34 q3.2) else
  ((gR q3.2 3 x0 1).bind fun v5 =>
  (lI q3.2 16 v5 x1).bind fun v6 =>
  if v6 = 0 then ((gR q3.2 3 x0 1).bind fun v8 =>
  (lI q3.2 16 v8 x2).bind fun v9 =>
  if v9 = 0 then ((gR q3.2 3 x0 0).bind fun v11 =>
  (lF q3.2 v11 x1).bind fun v12 =>
  (gR q3.2 3 x0 0).bind fun v13 =>
  (lF q3.2 v13 x2).bind fun v14 =>
  if 0 ≤ (jfcmp v12 v14 .g) then ((gR q3.2 3 x0 0).bind fun v16 =>
  (lF q3.2 v16 x1).bind fun v17 =>
  (gR q3.2 3 x0 0).bind fun v18 =>
  (lF q3.2 v18 x2).bind fun v19 =>
  if (jfcmp v17 v19 .l) ≤ 0 then (bX3_order_75 (nI 1) q3.2) else
  (bX3_order_75 (nI 2) q3.2)) else
  (some ((nI 0), q3.2))) else
  (bX3_order_34 q3.2)) else
  (bX3_order_34 q3.2)))) else none
theorem kX3_order {x0 : Nat} {x1 : Int32} {x2 : Int32} {h : ZH} {x : Int32 × ZH} (e : fX3_order x0 x1 x2 h = some x) : x0 < zn h ∧ zK h x0 = 3 := by
  unfold fX3_order at e
  exact zguard e
theorem mX3_order (b0 : Nat) (x0 : Nat) (x1 : Int32) (x2 : Int32) (h : ZH) : ZM zi b0 YX3_order 2 [.ref (b0 + x0), .int x1, .int x2] h (fX3_order x0 x1 x2 h) := by
  unfold fX3_order
  refine ZM.of (by decide) rfl (Nat.le_of_ble_eq_true rfl) (fun _ => trivial) ?_
  refine z_sub (lv2 := [(0, .ref (b0 + x0)), (1, .int x1), (2, .int x2)]) [0, 1, 2] rfl ?_
  refine z_guard (fun _ => ?_)
  refine z_aload_n 1 0 dX3_order_0 rfl rfl ?_
  refine z_iload_n 2 1 dX3_order_1 rfl rfl ?_
  refine z_callVi 5 (mX3_hasIndex b0 x0 x1 h) zyX3_hasIndex rfl w_972 (ci := 3) rfl (Nat.le_of_ble_eq_true rfl) (fun _ e9 => kX3_hasIndex e9) wm_yX3_hasIndex ws_yX3_hasIndex (Nat.le_of_ble_eq_true rfl) rfl (Nat.le_of_ble_eq_true rfl) dX3_order_2 rfl (fun q1 => ?_)
  refine z_if_eq 34 8 dX3_order_5 (by decide) rfl (fun c2 => ?_) (fun c2 => ?_)
  · exact z_sub [] rfl (BX3_order_34 b0 q1.2 )
  · refine z_aload_n 9 0 dX3_order_8 rfl rfl ?_
    refine z_iload_n 10 2 dX3_order_9 rfl rfl ?_
    refine z_callVi 13 (mX3_hasIndex b0 x0 x2 q1.2) zyX3_hasIndex rfl w_972 (ci := 3) rfl (Nat.le_of_ble_eq_true rfl) (fun _ e9 => kX3_hasIndex e9) wm_yX3_hasIndex ws_yX3_hasIndex (Nat.le_of_ble_eq_true rfl) rfl (Nat.le_of_ble_eq_true rfl) dX3_order_10 rfl (fun q3 => ?_)
    refine z_if_eq 34 16 dX3_order_13 (by decide) rfl (fun c4 => ?_) (fun c4 => ?_)
    · exact z_sub [] rfl (BX3_order_34 b0 q3.2 )
    · refine z_aload_n 17 0 dX3_order_16 rfl rfl ?_
      refine z_getR 20 zC3 (Nat.le_of_ble_eq_true rfl) rfl w_225 dX3_order_17 rfl (fun v5 _ => ?_)
      refine z_iload_n 21 1 dX3_order_20 rfl rfl ?_
      refine z_zaload 22 dX3_order_21 rfl (fun v6 _ => ?_)
      refine z_if_ne 34 25 dX3_order_22 (by decide) rfl (fun c7 => ?_) (fun c7 => ?_)
      · exact z_sub [] rfl (BX3_order_34 b0 q3.2 )
      · refine z_aload_n 26 0 dX3_order_25 rfl rfl ?_
        refine z_getR 29 zC3 (Nat.le_of_ble_eq_true rfl) rfl w_225 dX3_order_26 rfl (fun v8 _ => ?_)
        refine z_iload_n 30 2 dX3_order_29 rfl rfl ?_
        refine z_zaload 31 dX3_order_30 rfl (fun v9 _ => ?_)
        refine z_if_eq 36 34 dX3_order_31 (by decide) rfl (fun c10 => ?_) (fun c10 => ?_)
        · refine z_aload_n 37 0 dX3_order_36 rfl rfl ?_
          refine z_getR 40 zC3 (Nat.le_of_ble_eq_true rfl) rfl w_224 dX3_order_37 rfl (fun v11 _ => ?_)
          refine z_iload_n 41 1 dX3_order_40 rfl rfl ?_
          refine z_faload 42 dX3_order_41 rfl (fun v12 _ => ?_)
          refine z_aload_n 43 0 dX3_order_42 rfl rfl ?_
          refine z_getR 46 zC3 (Nat.le_of_ble_eq_true rfl) rfl w_224 dX3_order_43 rfl (fun v13 _ => ?_)
          refine z_iload_n 47 2 dX3_order_46 rfl rfl ?_
          refine z_faload 48 dX3_order_47 rfl (fun v14 _ => ?_)
          refine z_fcmp 49 dX3_order_48 rfl ?_
          refine z_if_ge 54 52 dX3_order_49 (by decide) rfl (fun c15 => ?_) (fun c15 => ?_)
          · refine z_aload_n 55 0 dX3_order_54 rfl rfl ?_
            refine z_getR 58 zC3 (Nat.le_of_ble_eq_true rfl) rfl w_224 dX3_order_55 rfl (fun v16 _ => ?_)
            refine z_iload_n 59 1 dX3_order_58 rfl rfl ?_
            refine z_faload 60 dX3_order_59 rfl (fun v17 _ => ?_)
            refine z_aload_n 61 0 dX3_order_60 rfl rfl ?_
            refine z_getR 64 zC3 (Nat.le_of_ble_eq_true rfl) rfl w_224 dX3_order_61 rfl (fun v18 _ => ?_)
            refine z_iload_n 65 2 dX3_order_64 rfl rfl ?_
            refine z_faload 66 dX3_order_65 rfl (fun v19 _ => ?_)
            refine z_fcmp 67 dX3_order_66 rfl ?_
            refine z_if_le 74 70 dX3_order_67 (by decide) rfl (fun c20 => ?_) (fun c20 => ?_)
            · refine z_iconst (nI 1) 75 zki_1 dX3_order_74 rfl ?_
              exact z_sub [] rfl (BX3_order_75 b0 (nI 1) q3.2 )
            · refine z_iconst (nI 2) 71 zki_2 dX3_order_70 rfl ?_
              refine z_goto 75 dX3_order_71 (by decide) ?_
              exact z_sub [] rfl (BX3_order_75 b0 (nI 2) q3.2 )
          · refine z_iconst (nI 0) 53 zki_0 dX3_order_52 rfl ?_
            exact z_ireturn dX3_order_53 rfl
        · exact z_sub [] rfl (BX3_order_34 b0 q3.2 )
-- X3_holds
def bX3_holds_37 (t0 : Int32) (h : ZH) : Option (Int32 × ZH) :=
  if t0 = 0 ∨ t0 = 1 then some (t0, h) else none
theorem BX3_holds_37 (b0 : Nat) (t0 : Int32) (h : ZH) : Zr zi b0 YX3_holds 2 37 [] [.int t0] h (bX3_holds_37 t0 h) := by
  unfold bX3_holds_37
  exact z_zreturn dX3_holds_37 rfl
def bX3_holds_36 (h : ZH) : Option (Int32 × ZH) :=
  bX3_holds_37 (nI 0) h
theorem BX3_holds_36 (b0 : Nat) (h : ZH) : Zr zi b0 YX3_holds 2 36 [] [] h (bX3_holds_36 h) := by
  unfold bX3_holds_36
  refine z_iconst (nI 0) 37 zki_0 dX3_holds_36 rfl ?_
  exact z_sub [] rfl (BX3_holds_37 b0 (nI 0) h )
def fX3_holds (x0 : Nat) (x1 : Int32) (x2 : Int64) (h : ZH) : Option (Int32 × ZH) :=
  if x0 < zn h ∧ zK h x0 = 3 then ((fX3_hasIndex x0 x1 h).bind fun q1 =>
  if q1.1 = 0 then (bX3_holds_36 q1.2) else
  ((gR q1.2 3 x0 1).bind fun v3 =>
  (lI q1.2 16 v3 x1).bind fun v4 =>
  if v4 = 0 then ((gR q1.2 3 x0 0).bind fun v6 =>
  (lF q1.2 v6 x1).bind fun v7 =>
  (fX3_converted x0 x2 q1.2).bind fun q8 =>
  if (jfcmp v7 q8.1 .l) = 0 then (bX3_holds_37 (nI 1) q8.2) else
  (bX3_holds_36 q8.2)) else
  (bX3_holds_36 q1.2))) else none
theorem kX3_holds {x0 : Nat} {x1 : Int32} {x2 : Int64} {h : ZH} {x : Int32 × ZH} (e : fX3_holds x0 x1 x2 h = some x) : x0 < zn h ∧ zK h x0 = 3 := by
  unfold fX3_holds at e
  exact zguard e
theorem mX3_holds (b0 : Nat) (x0 : Nat) (x1 : Int32) (x2 : Int64) (h : ZH) : ZM zi b0 YX3_holds 2 [.ref (b0 + x0), .int x1, .long x2] h (fX3_holds x0 x1 x2 h) := by
  unfold fX3_holds
  refine ZM.of (by decide) rfl (Nat.le_of_ble_eq_true rfl) (fun _ => trivial) ?_
  refine z_sub (lv2 := [(0, .ref (b0 + x0)), (1, .int x1), (2, .long x2)]) [0, 1, 2] rfl ?_
  refine z_guard (fun _ => ?_)
  refine z_aload_n 1 0 dX3_holds_0 rfl rfl ?_
  refine z_iload_n 2 1 dX3_holds_1 rfl rfl ?_
  refine z_callVi 5 (mX3_hasIndex b0 x0 x1 h) zyX3_hasIndex rfl w_972 (ci := 3) rfl (Nat.le_of_ble_eq_true rfl) (fun _ e9 => kX3_hasIndex e9) wm_yX3_hasIndex ws_yX3_hasIndex (Nat.le_of_ble_eq_true rfl) rfl (Nat.le_of_ble_eq_true rfl) dX3_holds_2 rfl (fun q1 => ?_)
  refine z_if_eq 36 8 dX3_holds_5 (by decide) rfl (fun c2 => ?_) (fun c2 => ?_)
  · exact z_sub [] rfl (BX3_holds_36 b0 q1.2 )
  · refine z_aload_n 9 0 dX3_holds_8 rfl rfl ?_
    refine z_getR 12 zC3 (Nat.le_of_ble_eq_true rfl) rfl w_225 dX3_holds_9 rfl (fun v3 _ => ?_)
    refine z_iload_n 13 1 dX3_holds_12 rfl rfl ?_
    refine z_zaload 14 dX3_holds_13 rfl (fun v4 _ => ?_)
    refine z_if_ne 36 17 dX3_holds_14 (by decide) rfl (fun c5 => ?_) (fun c5 => ?_)
    · exact z_sub [] rfl (BX3_holds_36 b0 q1.2 )
    · refine z_aload_n 18 0 dX3_holds_17 rfl rfl ?_
      refine z_getR 21 zC3 (Nat.le_of_ble_eq_true rfl) rfl w_224 dX3_holds_18 rfl (fun v6 _ => ?_)
      refine z_iload_n 22 1 dX3_holds_21 rfl rfl ?_
      refine z_faload 23 dX3_holds_22 rfl (fun v7 _ => ?_)
      refine z_aload_n 24 0 dX3_holds_23 rfl rfl ?_
      refine z_lload_n 25 2 dX3_holds_24 rfl rfl ?_
      refine z_callVf 28 (mX3_converted b0 x0 x2 q1.2) zyX3_converted rfl w_974 (ci := 3) rfl (Nat.le_of_ble_eq_true rfl) (fun _ e9 => kX3_converted e9) wm_yX3_converted ws_yX3_converted (Nat.le_of_ble_eq_true rfl) rfl (Nat.le_of_ble_eq_true rfl) dX3_holds_25 rfl (fun q8 => ?_)
      refine z_fcmp 29 dX3_holds_28 rfl ?_
      refine z_if_ne 36 32 dX3_holds_29 (by decide) rfl (fun c9 => ?_) (fun c9 => ?_)
      · exact z_sub [] rfl (BX3_holds_36 b0 q8.2 )
      · refine z_iconst (nI 1) 33 zki_1 dX3_holds_32 rfl ?_
        refine z_goto 37 dX3_holds_33 (by decide) ?_
        exact z_sub [] rfl (BX3_holds_37 b0 (nI 1) q8.2 )
-- X4_init
def fX4_init (x0 : Nat) (h : ZH) : Option (ZH) :=
  if x0 < zn h ∧ zK h x0 = 4 then ((zala h 15 (nI 512)).bind fun q1 =>
  (pR q1.2 4 x0 0 q1.1).bind fun h2 =>
  (zala h2 14 (nI 2048)).bind fun q3 =>
  (pR q3.2 4 x0 2 q3.1).bind fun h4 =>
  (pI h4 4 x0 3 (-1 : Int32)).bind fun h5 =>
  some h5) else none
theorem kX4_init {x0 : Nat} {h : ZH} {x : ZH} (e : fX4_init x0 h = some x) : x0 < zn h ∧ zK h x0 = 4 := by
  unfold fX4_init at e
  exact zguard e
theorem mX4_init (b0 : Nat) (x0 : Nat) (h : ZH) : ZM zv b0 YX4_init 2 [.ref (b0 + x0)] h (fX4_init x0 h) := by
  unfold fX4_init
  refine ZM.of (by decide) rfl (Nat.le_of_ble_eq_true rfl) (fun _ => trivial) ?_
  refine z_sub (lv2 := [(0, .ref (b0 + x0))]) [0] rfl ?_
  refine z_guard (fun _ => ?_)
  refine z_aload_n 1 0 dX4_init_0 rfl rfl ?_
  refine z_objInit 4 w_119 wm_Lib_objectInit wc_Lib_objectInit (Nat.le_of_ble_eq_true rfl) (Nat.le_of_ble_eq_true rfl) dX4_init_1 rfl ?_
  refine z_aload_n 5 0 dX4_init_4 rfl rfl ?_
  refine z_sipush (nI 512) 8 zks_512 dX4_init_5 rfl ?_
  refine z_newA_long 10 wa_long dX4_init_8 rfl (fun q1 => ?_)
  refine z_putR 13 zC4 (Nat.le_of_ble_eq_true rfl) rfl rfl rfl w_120 dX4_init_10 rfl (fun h2 _ => ?_)
  refine z_aload_n 14 0 dX4_init_13 rfl rfl ?_
  refine z_sipush (nI 2048) 17 zks_2048 dX4_init_14 rfl ?_
  refine z_newA_int 19 wa_int dX4_init_17 rfl (fun q3 => ?_)
  refine z_putF 22 zC4 (Nat.le_of_ble_eq_true rfl) rfl rfl rfl rfl rfl (Or.inl ⟨_, rfl⟩) w_122 dX4_init_19 rfl (fun h4 _ => ?_)
  refine z_aload_n 23 0 dX4_init_22 rfl rfl ?_
  refine z_iconst (-1 : Int32) 24 zki_m1 dX4_init_23 rfl ?_
  refine z_putI 27 zC4 (Nat.le_of_ble_eq_true rfl) rfl rfl rfl w_123 dX4_init_24 rfl (fun h5 _ => ?_)
  exact z_return dX4_init_27 rfl
-- X4_pairAt
def bX4_pairAt_47 (t0 : Int32) (h : ZH) : Option (Int32 × ZH) :=
  some (t0, h)
theorem BX4_pairAt_47 (b0 : Nat) (t0 : Int32) (h : ZH) : Zr zi b0 YX4_pairAt 1 47 [] [.int t0] h (bX4_pairAt_47 t0 h) := by
  unfold bX4_pairAt_47
  exact z_ireturn dX4_pairAt_47 rfl
def bX4_pairAt_26 (x0 : Nat) (x1 : Int32) (t0 : Int32) (h : ZH) : Option (Int32 × ZH) :=
  if t0 = 0 then (bX4_pairAt_47 (65535 : Int32) h) else
  ((gR h 4 x0 0).bind fun v2 =>
  (lJ h v2 x1).bind fun v3 =>
  bX4_pairAt_47 ((v3 &&& (65535 : Int64)).toInt32) h)
theorem BX4_pairAt_26 (b0 : Nat) (x0 : Nat) (x1 : Int32) (t0 : Int32) (h : ZH) : Zr zi b0 YX4_pairAt 1 26 [(0, .ref (b0 + x0)), (1, .int x1)] [.int t0] h (bX4_pairAt_26 x0 x1 t0 h) := by
  unfold bX4_pairAt_26
  refine z_istore_n (lv2 := [(2, .int t0), (0, .ref (b0 + x0)), (1, .int x1)]) 27 dX4_pairAt_26 rfl (Nat.le_of_ble_eq_true rfl) rfl ?_
  refine z_iload_n 28 0 dX4_pairAt_27 rfl rfl ?_
  refine z_if_eq 45 31 dX4_pairAt_28 (by decide) rfl (fun c1 => ?_) (fun c1 => ?_)
  · refine z_ldc 47 w_784 dX4_pairAt_45 rfl ?_
    exact z_sub [] rfl (BX4_pairAt_47 b0 (65535 : Int32) h )
  · refine z_aload_n 32 1 dX4_pairAt_31 rfl rfl ?_
    refine z_getR 35 zC4 (Nat.le_of_ble_eq_true rfl) rfl w_120 dX4_pairAt_32 rfl (fun v2 _ => ?_)
    refine z_iload_n 36 2 dX4_pairAt_35 rfl rfl ?_
    refine z_laload 37 dX4_pairAt_36 rfl (fun v3 _ => ?_)
    refine z_ldc2 40 w_783 dX4_pairAt_37 rfl ?_
    refine z_land 41 dX4_pairAt_40 rfl ?_
    refine z_l2i 42 dX4_pairAt_41 rfl ?_
    refine z_goto 47 dX4_pairAt_42 (by decide) ?_
    exact z_sub [] rfl (BX4_pairAt_47 b0 ((v3 &&& (65535 : Int64)).toInt32) h )
def bX4_pairAt_25 (x0 : Nat) (x1 : Int32) (h : ZH) : Option (Int32 × ZH) :=
  bX4_pairAt_26 x0 x1 (nI 0) h
theorem BX4_pairAt_25 (b0 : Nat) (x0 : Nat) (x1 : Int32) (h : ZH) : Zr zi b0 YX4_pairAt 1 25 [(0, .ref (b0 + x0)), (1, .int x1)] [] h (bX4_pairAt_25 x0 x1 h) := by
  unfold bX4_pairAt_25
  refine z_iconst (nI 0) 26 zki_0 dX4_pairAt_25 rfl ?_
  exact z_sub [0, 1] rfl (BX4_pairAt_26 b0 x0 x1 (nI 0) h )
def fX4_pairAt (x0 : Nat) (x1 : Int32) (h : ZH) : Option (Int32 × ZH) :=
  if x0 < zn h ∧ zK h x0 = 4 then (if x1 < 0 then (bX4_pairAt_25 x0 x1 h) else
  ((gI h 4 x0 1).bind fun v2 =>
  if v2 ≤ x1 then (bX4_pairAt_25 x0 x1 h) else
  ((gR h 4 x0 0).bind fun v4 =>
  (zlen h v4).bind fun v5 =>
  if v5 ≤ x1 then (bX4_pairAt_25 x0 x1 h) else
  (bX4_pairAt_26 x0 x1 (nI 1) h)))) else none
theorem kX4_pairAt {x0 : Nat} {x1 : Int32} {h : ZH} {x : Int32 × ZH} (e : fX4_pairAt x0 x1 h = some x) : x0 < zn h ∧ zK h x0 = 4 := by
  unfold fX4_pairAt at e
  exact zguard e
theorem mX4_pairAt (b0 : Nat) (x0 : Nat) (x1 : Int32) (h : ZH) : ZM zi b0 YX4_pairAt 1 [.ref (b0 + x0), .int x1] h (fX4_pairAt x0 x1 h) := by
  unfold fX4_pairAt
  refine ZM.of (by decide) rfl (Nat.le_of_ble_eq_true rfl) (fun _ => trivial) ?_
  refine z_sub (lv2 := [(0, .ref (b0 + x0)), (1, .int x1)]) [0, 1] rfl ?_
  refine z_guard (fun _ => ?_)
  refine z_iload_n 1 1 dX4_pairAt_0 rfl rfl ?_
  refine z_if_lt 25 4 dX4_pairAt_1 (by decide) rfl (fun c1 => ?_) (fun c1 => ?_)
  · exact z_sub [0, 1] rfl (BX4_pairAt_25 b0 x0 x1 h )
  · refine z_iload_n 5 1 dX4_pairAt_4 rfl rfl ?_
    refine z_aload_n 6 0 dX4_pairAt_5 rfl rfl ?_
    refine z_getI 9 zC4 (Nat.le_of_ble_eq_true rfl) rfl w_121 dX4_pairAt_6 rfl (fun v2 _ => ?_)
    refine z_icmp_ge 25 12 dX4_pairAt_9 (by decide) rfl (fun c3 => ?_) (fun c3 => ?_)
    · exact z_sub [0, 1] rfl (BX4_pairAt_25 b0 x0 x1 h )
    · refine z_iload_n 13 1 dX4_pairAt_12 rfl rfl ?_
      refine z_aload_n 14 0 dX4_pairAt_13 rfl rfl ?_
      refine z_getR 17 zC4 (Nat.le_of_ble_eq_true rfl) rfl w_120 dX4_pairAt_14 rfl (fun v4 _ => ?_)
      refine z_alen 18 dX4_pairAt_17 rfl (fun v5 _ => ?_)
      refine z_icmp_ge 25 21 dX4_pairAt_18 (by decide) rfl (fun c6 => ?_) (fun c6 => ?_)
      · exact z_sub [0, 1] rfl (BX4_pairAt_25 b0 x0 x1 h )
      · refine z_iconst (nI 1) 22 zki_1 dX4_pairAt_21 rfl ?_
        refine z_goto 26 dX4_pairAt_22 (by decide) ?_
        exact z_sub [0, 1] rfl (BX4_pairAt_26 b0 x0 x1 (nI 1) h )
-- X4_forget
def kX4_forget_2 (x0 : Nat) (self2 : Int32 × ZH → Option (ZH)) (x1 : Int32) (h : ZH) : Option (ZH) :=
  (gI h 4 x0 1).bind fun v1 =>
  if v1 ≤ x1 then ((pI h 4 x0 1 (nI 0)).bind fun h3 =>
  some h3) else
  ((gR h 4 x0 2).bind fun v4 =>
  (fX4_pairAt x0 x1 h).bind fun q5 =>
  if (nI 32) = 0 then none else
  (sI q5.2 14 v4 (q5.1 / (nI 32)) (nI 0)).bind fun h6 =>
  self2 ((x1 + (nI 1)), h6))
def lX4_forget_2 (x0 : Nat) : (Int32 × ZH → Option (ZH)) → Int32 × ZH → Option (ZH) := fun self s => kX4_forget_2 x0 self s.1 s.2
theorem KX4_forget_2 (b0 : Nat) (x0 : Nat) (self2 : Int32 × ZH → Option (ZH)) (hself2 : ∀ (y1 : Int32) (hh : ZH), Zr zv b0 YX4_forget 2 2 [(0, .ref (b0 + x0)), (1, .int y1)] [] hh (self2 (y1, hh))) (x1 : Int32) (h : ZH) : Zr zv b0 YX4_forget 2 2 [(0, .ref (b0 + x0)), (1, .int x1)] [] h (kX4_forget_2 x0 self2 x1 h) := by
  unfold kX4_forget_2
  refine z_iload_n 3 1 dX4_forget_2 rfl rfl ?_
  refine z_aload_n 4 0 dX4_forget_3 rfl rfl ?_
  refine z_getI 7 zC4 (Nat.le_of_ble_eq_true rfl) rfl w_121 dX4_forget_4 rfl (fun v1 _ => ?_)
  refine z_icmp_ge 30 10 dX4_forget_7 (by decide) rfl (fun c2 => ?_) (fun c2 => ?_)
  · refine z_aload_n 31 0 dX4_forget_30 rfl rfl ?_
    refine z_iconst (nI 0) 32 zki_0 dX4_forget_31 rfl ?_
    refine z_putI 35 zC4 (Nat.le_of_ble_eq_true rfl) rfl rfl rfl w_121 dX4_forget_32 rfl (fun h3 _ => ?_)
    exact z_return dX4_forget_35 rfl
  · refine z_aload_n 11 0 dX4_forget_10 rfl rfl ?_
    refine z_getR 14 zC4 (Nat.le_of_ble_eq_true rfl) rfl w_122 dX4_forget_11 rfl (fun v4 _ => ?_)
    refine z_aload_n 15 0 dX4_forget_14 rfl rfl ?_
    refine z_iload_n 16 1 dX4_forget_15 rfl rfl ?_
    refine z_callVi 19 (mX4_pairAt b0 x0 x1 h) zyX4_pairAt rfl w_779 (ci := 4) rfl (Nat.le_of_ble_eq_true rfl) (fun _ e9 => kX4_pairAt e9) wm_yX4_pairAt ws_yX4_pairAt (Nat.le_of_ble_eq_true rfl) rfl (Nat.le_of_ble_eq_true rfl) dX4_forget_16 rfl (fun q5 => ?_)
    refine z_bipush (nI 32) 21 zkb_32 dX4_forget_19 rfl ?_
    refine z_idiv 22 dX4_forget_21 rfl (fun _ => ?_)
    refine z_iconst (nI 0) 23 zki_0 dX4_forget_22 rfl ?_
    refine z_iastore 24 dX4_forget_23 rfl (fun h6 _ => ?_)
    refine z_iinc (lv2 := [(1, .int (x1 + (nI 1))), (0, .ref (b0 + x0))]) (nI 1) 27 1 dX4_forget_24 rfl rfl zki_1 (Nat.le_of_ble_eq_true rfl) rfl ?_
    refine z_goto 2 dX4_forget_27 (by decide) ?_
    exact z_sub [1, 0] rfl (hself2 (x1 + (nI 1)) h6)
theorem BX4_forget_2 (b0 : Nat) (x0 : Nat) (n : Nat) (x1 : Int32) (h : ZH) : Zr zv b0 YX4_forget 2 2 [(0, .ref (b0 + x0)), (1, .int x1)] [] h (zloop (lX4_forget_2 x0) n (x1, h)) :=
  zloop_Zr (fun s => [(0, .ref (b0 + x0)), (1, .int s.1)]) (fun _ => []) (fun s => s.2) (lX4_forget_2 x0) (fun self hs s => KX4_forget_2 b0 x0 self (fun y1 hh => hs (y1, hh)) s.1 s.2) n (x1, h)
def fX4_forget (x0 : Nat) (h : ZH) : Option (ZH) :=
  if x0 < zn h ∧ zK h x0 = 4 then (zloop (lX4_forget_2 x0) zfu ((nI 0), h)) else none
theorem kX4_forget {x0 : Nat} {h : ZH} {x : ZH} (e : fX4_forget x0 h = some x) : x0 < zn h ∧ zK h x0 = 4 := by
  unfold fX4_forget at e
  exact zguard e
theorem mX4_forget (b0 : Nat) (x0 : Nat) (h : ZH) : ZM zv b0 YX4_forget 2 [.ref (b0 + x0)] h (fX4_forget x0 h) := by
  unfold fX4_forget
  refine ZM.of (by decide) rfl (Nat.le_of_ble_eq_true rfl) (fun _ => trivial) ?_
  refine z_sub (lv2 := [(0, .ref (b0 + x0))]) [0] rfl ?_
  refine z_guard (fun _ => ?_)
  refine z_iconst (nI 0) 1 zki_0 dX4_forget_0 rfl ?_
  refine z_istore_n (lv2 := [(1, .int (nI 0)), (0, .ref (b0 + x0))]) 2 dX4_forget_1 rfl (Nat.le_of_ble_eq_true rfl) rfl ?_
  exact z_sub [1, 0] rfl (BX4_forget_2 b0 x0 zfu (nI 0) h)
-- X4_isDifference
def bX4_isDifference_40 (t0 : Int32) (h : ZH) : Option (Int32 × ZH) :=
  if t0 = 0 ∨ t0 = 1 then some (t0, h) else none
theorem BX4_isDifference_40 (b0 : Nat) (t0 : Int32) (h : ZH) : Zr zi b0 YX4_isDifference 1 40 [] [.int t0] h (bX4_isDifference_40 t0 h) := by
  unfold bX4_isDifference_40
  exact z_zreturn dX4_isDifference_40 rfl
def bX4_isDifference_32 (t0 : Int32) (t1 : Int32) (h : ZH) : Option (Int32 × ZH) :=
  if t1 = t0 then (bX4_isDifference_40 (nI 0) h) else
  (bX4_isDifference_40 (nI 1) h)
theorem BX4_isDifference_32 (b0 : Nat) (t0 : Int32) (t1 : Int32) (h : ZH) : Zr zi b0 YX4_isDifference 1 32 [] [.int t0, .int t1] h (bX4_isDifference_32 t0 t1 h) := by
  unfold bX4_isDifference_32
  refine z_icmp_eq 39 35 dX4_isDifference_32 (by decide) rfl (fun c1 => ?_) (fun c1 => ?_)
  · refine z_iconst (nI 0) 40 zki_0 dX4_isDifference_39 rfl ?_
    exact z_sub [] rfl (BX4_isDifference_40 b0 (nI 0) h )
  · refine z_iconst (nI 1) 36 zki_1 dX4_isDifference_35 rfl ?_
    refine z_goto 40 dX4_isDifference_36 (by decide) ?_
    exact z_sub [] rfl (BX4_isDifference_40 b0 (nI 1) h )
def bX4_isDifference_16 (x0 : Int32) (t0 : Int32) (h : ZH) : Option (Int32 × ZH) :=
  if (nI 256) = 0 then none else
  if (jrem x0 (nI 256)) = (nI 255) then (bX4_isDifference_32 (nI 1) t0 h) else
  (bX4_isDifference_32 (nI 0) t0 h)
theorem BX4_isDifference_16 (b0 : Nat) (x0 : Int32) (t0 : Int32) (h : ZH) : Zr zi b0 YX4_isDifference 1 16 [(0, .int x0)] [.int t0] h (bX4_isDifference_16 x0 t0 h) := by
  unfold bX4_isDifference_16
  refine z_iload_n 17 0 dX4_isDifference_16 rfl rfl ?_
  refine z_sipush (nI 256) 20 zks_256 dX4_isDifference_17 rfl ?_
  refine z_irem 21 dX4_isDifference_20 rfl (fun _ => ?_)
  refine z_sipush (nI 255) 24 zks_255 dX4_isDifference_21 rfl ?_
  refine z_icmp_ne 31 27 dX4_isDifference_24 (by decide) rfl (fun c1 => ?_) (fun c1 => ?_)
  · refine z_iconst (nI 0) 32 zki_0 dX4_isDifference_31 rfl ?_
    exact z_sub [] rfl (BX4_isDifference_32 b0 (nI 0) t0 h )
  · refine z_iconst (nI 1) 28 zki_1 dX4_isDifference_27 rfl ?_
    refine z_goto 32 dX4_isDifference_28 (by decide) ?_
    exact z_sub [] rfl (BX4_isDifference_32 b0 (nI 1) t0 h )
def fX4_isDifference (x0 : Int32) (h : ZH) : Option (Int32 × ZH) :=
  if (nI 256) = 0 then none else
  if (x0 / (nI 256)) = (nI 255) then (bX4_isDifference_16 x0 (nI 1) h) else
  (bX4_isDifference_16 x0 (nI 0) h)
theorem mX4_isDifference (b0 : Nat) (x0 : Int32) (h : ZH) : ZM zi b0 YX4_isDifference 1 [.int x0] h (fX4_isDifference x0 h) := by
  unfold fX4_isDifference
  refine ZM.of (by decide) rfl (Nat.le_of_ble_eq_true rfl) (fun _ => trivial) ?_
  refine z_sub (lv2 := [(0, .int x0)]) [0] rfl ?_
  refine z_iload_n 1 0 dX4_isDifference_0 rfl rfl ?_
  refine z_sipush (nI 256) 4 zks_256 dX4_isDifference_1 rfl ?_
  refine z_idiv 5 dX4_isDifference_4 rfl (fun _ => ?_)
  refine z_sipush (nI 255) 8 zks_255 dX4_isDifference_5 rfl ?_
  refine z_icmp_ne 15 11 dX4_isDifference_8 (by decide) rfl (fun c1 => ?_) (fun c1 => ?_)
  · refine z_iconst (nI 0) 16 zki_0 dX4_isDifference_15 rfl ?_
    exact z_sub [0] rfl (BX4_isDifference_16 b0 x0 (nI 0) h )
  · refine z_iconst (nI 1) 12 zki_1 dX4_isDifference_11 rfl ?_
    refine z_goto 16 dX4_isDifference_12 (by decide) ?_
    exact z_sub [0] rfl (BX4_isDifference_16 b0 x0 (nI 1) h )
-- J7_copyOf_c38d5
def fJ7_copyOf_c38d5 (x0 : Nat) (x1 : Int32) (h : ZH) : Option (Nat × ZH) :=
  (zlen h x0).bind fun v1 =>
  if x1 = v1 then (none) else
  ((zala h 15 x1).bind fun q3 =>
  (zlen q3.2 x0).bind fun v4 =>
  (zcpJ q3.2 x0 q3.1 (nI 0) (nI 0) (jmmin v4 x1)).bind fun h5 =>
  some (q3.1, h5))
theorem mJ7_copyOf_c38d5 (b0 : Nat) (x0 : Nat) (x1 : Int32) (h : ZH) : ZM (zr b0) b0 YJ7_copyOf_c38d5 2 [.ref (b0 + x0), .int x1] h (fJ7_copyOf_c38d5 x0 x1 h) := by
  unfold fJ7_copyOf_c38d5
  refine ZM.of (by decide) rfl (Nat.le_of_ble_eq_true rfl) (fun _ => trivial) ?_
  refine z_sub (lv2 := [(0, .ref (b0 + x0)), (1, .int x1)]) [0, 1] rfl ?_
  refine z_iload_n 1 1 dJ7_copyOf_c38d5_0 rfl rfl ?_
  refine z_aload_n 2 0 dJ7_copyOf_c38d5_1 rfl rfl ?_
  refine z_alen 3 dJ7_copyOf_c38d5_2 rfl (fun v1 _ => ?_)
  refine z_icmp_ne 14 6 dJ7_copyOf_c38d5_3 (by decide) rfl (fun c2 => ?_) (fun c2 => ?_)
  · refine z_iload_n 15 1 dJ7_copyOf_c38d5_14 rfl rfl ?_
    refine z_newA_long 17 wa_long dJ7_copyOf_c38d5_15 rfl (fun q3 => ?_)
    refine z_astore_n (lv2 := [(2, .ref (b0 + q3.1)), (0, .ref (b0 + x0)), (1, .int x1)]) 18 dJ7_copyOf_c38d5_17 rfl (Nat.le_of_ble_eq_true rfl) rfl ?_
    refine z_aload_n 19 1 dJ7_copyOf_c38d5_18 rfl rfl ?_
    refine z_iconst (nI 0) 20 zki_0 dJ7_copyOf_c38d5_19 rfl ?_
    refine z_aload_n 21 0 dJ7_copyOf_c38d5_20 rfl rfl ?_
    refine z_iconst (nI 0) 22 zki_0 dJ7_copyOf_c38d5_21 rfl ?_
    refine z_aload_n 23 1 dJ7_copyOf_c38d5_22 rfl rfl ?_
    refine z_alen 24 dJ7_copyOf_c38d5_23 rfl (fun v4 _ => ?_)
    refine z_iload_n 25 2 dJ7_copyOf_c38d5_24 rfl rfl ?_
    refine z_mmin 28 w_808 wt_Lib_Math_min_name wi_RJ9 wc_Lib_Math_min_name (Nat.le_of_ble_eq_true rfl) (Nat.le_of_ble_eq_true rfl) dJ7_copyOf_c38d5_25 rfl ?_
    refine z_arraycopyJ 31 w_809 wv_arraycopyName wt_arraycopyName wi_RJ10 (Nat.le_of_ble_eq_true rfl) (Nat.le_of_ble_eq_true rfl) dJ7_copyOf_c38d5_28 rfl (fun h5 _ => ?_)
    refine z_aload_n 32 0 dJ7_copyOf_c38d5_31 rfl rfl ?_
    exact z_areturn dJ7_copyOf_c38d5_32 rfl (Or.inr ⟨_, rfl⟩)
  · refine z_aload_n 7 0 dJ7_copyOf_c38d5_6 rfl rfl ?_
    exact Zr.none
-- X4_makeRoom
def bX4_makeRoom_40 (h : ZH) : Option (ZH) :=
  some h
theorem BX4_makeRoom_40 (b0 : Nat) (h : ZH) : Zr zv b0 YX4_makeRoom 3 40 [] [] h (bX4_makeRoom_40 h) := by
  unfold bX4_makeRoom_40
  exact z_return dX4_makeRoom_40 rfl
def fX4_makeRoom (x0 : Nat) (h : ZH) : Option (ZH) :=
  if x0 < zn h ∧ zK h x0 = 4 then ((gI h 4 x0 1).bind fun v1 =>
  (gR h 4 x0 0).bind fun v2 =>
  (zlen h v2).bind fun v3 =>
  if v1 < v3 then (bX4_makeRoom_40 h) else
  ((gR h 4 x0 0).bind fun v5 =>
  (zlen h v5).bind fun v6 =>
  if (65536 : Int32) ≤ v6 then (bX4_makeRoom_40 h) else
  ((gR h 4 x0 0).bind fun v8 =>
  (gR h 4 x0 0).bind fun v9 =>
  (zlen h v9).bind fun v10 =>
  (fJ7_copyOf_c38d5 v8 ((nI 2) * v10) h).bind fun q11 =>
  (pR q11.2 4 x0 0 q11.1).bind fun h12 =>
  bX4_makeRoom_40 h12))) else none
theorem kX4_makeRoom {x0 : Nat} {h : ZH} {x : ZH} (e : fX4_makeRoom x0 h = some x) : x0 < zn h ∧ zK h x0 = 4 := by
  unfold fX4_makeRoom at e
  exact zguard e
theorem mX4_makeRoom (b0 : Nat) (x0 : Nat) (h : ZH) : ZM zv b0 YX4_makeRoom 3 [.ref (b0 + x0)] h (fX4_makeRoom x0 h) := by
  unfold fX4_makeRoom
  refine ZM.of (by decide) rfl (Nat.le_of_ble_eq_true rfl) (fun _ => trivial) ?_
  refine z_sub (lv2 := [(0, .ref (b0 + x0))]) [0] rfl ?_
  refine z_guard (fun _ => ?_)
  refine z_aload_n 1 0 dX4_makeRoom_0 rfl rfl ?_
  refine z_getI 4 zC4 (Nat.le_of_ble_eq_true rfl) rfl w_121 dX4_makeRoom_1 rfl (fun v1 _ => ?_)
  refine z_aload_n 5 0 dX4_makeRoom_4 rfl rfl ?_
  refine z_getR 8 zC4 (Nat.le_of_ble_eq_true rfl) rfl w_120 dX4_makeRoom_5 rfl (fun v2 _ => ?_)
  refine z_alen 9 dX4_makeRoom_8 rfl (fun v3 _ => ?_)
  refine z_icmp_lt 40 12 dX4_makeRoom_9 (by decide) rfl (fun c4 => ?_) (fun c4 => ?_)
  · exact z_sub [] rfl (BX4_makeRoom_40 b0 h )
  · refine z_aload_n 13 0 dX4_makeRoom_12 rfl rfl ?_
    refine z_getR 16 zC4 (Nat.le_of_ble_eq_true rfl) rfl w_120 dX4_makeRoom_13 rfl (fun v5 _ => ?_)
    refine z_alen 17 dX4_makeRoom_16 rfl (fun v6 _ => ?_)
    refine z_ldc 19 w_797 dX4_makeRoom_17 rfl ?_
    refine z_icmp_ge 40 22 dX4_makeRoom_19 (by decide) rfl (fun c7 => ?_) (fun c7 => ?_)
    · exact z_sub [] rfl (BX4_makeRoom_40 b0 h )
    · refine z_aload_n 23 0 dX4_makeRoom_22 rfl rfl ?_
      refine z_aload_n 24 0 dX4_makeRoom_23 rfl rfl ?_
      refine z_getR 27 zC4 (Nat.le_of_ble_eq_true rfl) rfl w_120 dX4_makeRoom_24 rfl (fun v8 _ => ?_)
      refine z_iconst (nI 2) 28 zki_2 dX4_makeRoom_27 rfl ?_
      refine z_aload_n 29 0 dX4_makeRoom_28 rfl rfl ?_
      refine z_getR 32 zC4 (Nat.le_of_ble_eq_true rfl) rfl w_120 dX4_makeRoom_29 rfl (fun v9 _ => ?_)
      refine z_alen 33 dX4_makeRoom_32 rfl (fun v10 _ => ?_)
      refine z_imul 34 dX4_makeRoom_33 rfl ?_
      refine z_callSr 37 (mJ7_copyOf_c38d5 b0 v8 ((nI 2) * v10) h) zyJ7_copyOf_c38d5 rfl w_798 wt_yJ7_copyOf_c38d5 (Nat.le_of_ble_eq_true rfl) rfl (Nat.le_of_ble_eq_true rfl) dX4_makeRoom_34 rfl (fun q11 => ?_)
      refine z_putR 40 zC4 (Nat.le_of_ble_eq_true rfl) rfl rfl rfl w_120 dX4_makeRoom_37 rfl (fun h12 _ => ?_)
      exact z_sub [] rfl (BX4_makeRoom_40 b0 h12 )
-- X4_note
def bX4_note_99 (h : ZH) : Option (ZH) :=
  some h
theorem BX4_note_99 (b0 : Nat) (h : ZH) : Zr zv b0 YX4_note 4 99 [] [] h (bX4_note_99 h) := by
  unfold bX4_note_99
  exact z_return dX4_note_99 rfl
def bX4_note_29 (h : ZH) : Option (ZH) :=
  some h
theorem BX4_note_29 (b0 : Nat) (h : ZH) : Zr zv b0 YX4_note 4 29 [] [] h (bX4_note_29 h) := by
  unfold bX4_note_29
  exact z_return dX4_note_29 rfl
def fX4_note (x0 : Nat) (x1 : Int32) (x2 : Int32) (h : ZH) : Option (ZH) :=
  if x0 < zn h ∧ zK h x0 = 4 then (if x1 < 0 then (bX4_note_29 h) else
  (if (65535 : Int32) ≤ x1 then (bX4_note_29 h) else
  ((gR h 4 x0 2).bind fun v3 =>
  if (nI 32) = 0 then none else
  (lI h 14 v3 (x1 / (nI 32))).bind fun v4 =>
  if (nI 32) = 0 then none else
  if ((jshr v4 (jrem x1 (nI 32))) &&& (nI 1)) = 0 then ((fX4_makeRoom x0 h).bind fun h6 =>
  (gI h6 4 x0 1).bind fun v7 =>
  if v7 < 0 then (bX4_note_99 h6) else
  ((gI h6 4 x0 1).bind fun v9 =>
  (gR h6 4 x0 0).bind fun v10 =>
  (zlen h6 v10).bind fun v11 =>
  if v11 ≤ v9 then (bX4_note_99 h6) else
  ((gR h6 4 x0 2).bind fun v13 =>
  if (nI 32) = 0 then none else
  zl (x1 / (nI 32)) fun v14 =>
  (lI h6 14 v13 v14).bind fun v15 =>
  if (nI 32) = 0 then none else
  (sI h6 14 v13 v14 (v15 ||| (jshl (nI 1) (jrem x1 (nI 32))))).bind fun h16 =>
  (gR h16 4 x0 0).bind fun v17 =>
  (gI h16 4 x0 1).bind fun v18 =>
  (sJ h16 v17 v18 ((x1.toInt64) + ((65536 : Int64) * (x2.toInt64)))).bind fun h19 =>
  (gI h19 4 x0 1).bind fun v20 =>
  (pI h19 4 x0 1 (v20 + (nI 1))).bind fun h21 =>
  bX4_note_99 h21))) else
  (bX4_note_29 h)))) else none
theorem kX4_note {x0 : Nat} {x1 : Int32} {x2 : Int32} {h : ZH} {x : ZH} (e : fX4_note x0 x1 x2 h = some x) : x0 < zn h ∧ zK h x0 = 4 := by
  unfold fX4_note at e
  exact zguard e
theorem mX4_note (b0 : Nat) (x0 : Nat) (x1 : Int32) (x2 : Int32) (h : ZH) : ZM zv b0 YX4_note 4 [.ref (b0 + x0), .int x1, .int x2] h (fX4_note x0 x1 x2 h) := by
  unfold fX4_note
  refine ZM.of (by decide) rfl (Nat.le_of_ble_eq_true rfl) (fun _ => trivial) ?_
  refine z_sub (lv2 := [(0, .ref (b0 + x0)), (1, .int x1), (2, .int x2)]) [0, 1, 2] rfl ?_
  refine z_guard (fun _ => ?_)
  refine z_iload_n 1 1 dX4_note_0 rfl rfl ?_
  refine z_if_lt 29 4 dX4_note_1 (by decide) rfl (fun c1 => ?_) (fun c1 => ?_)
  · exact z_sub [] rfl (BX4_note_29 b0 h )
  · refine z_iload_n 5 1 dX4_note_4 rfl rfl ?_
    refine z_ldc 7 w_784 dX4_note_5 rfl ?_
    refine z_icmp_ge 29 10 dX4_note_7 (by decide) rfl (fun c2 => ?_) (fun c2 => ?_)
    · exact z_sub [] rfl (BX4_note_29 b0 h )
    · refine z_aload_n 11 0 dX4_note_10 rfl rfl ?_
      refine z_getR 14 zC4 (Nat.le_of_ble_eq_true rfl) rfl w_122 dX4_note_11 rfl (fun v3 _ => ?_)
      refine z_iload_n 15 1 dX4_note_14 rfl rfl ?_
      refine z_bipush (nI 32) 17 zkb_32 dX4_note_15 rfl ?_
      refine z_idiv 18 dX4_note_17 rfl (fun _ => ?_)
      refine z_iaload 19 dX4_note_18 rfl (fun v4 _ => ?_)
      refine z_iload_n 20 1 dX4_note_19 rfl rfl ?_
      refine z_bipush (nI 32) 22 zkb_32 dX4_note_20 rfl ?_
      refine z_irem 23 dX4_note_22 rfl (fun _ => ?_)
      refine z_ishr 24 dX4_note_23 rfl ?_
      refine z_iconst (nI 1) 25 zki_1 dX4_note_24 rfl ?_
      refine z_iand 26 dX4_note_25 rfl ?_
      refine z_if_eq 30 29 dX4_note_26 (by decide) rfl (fun c5 => ?_) (fun c5 => ?_)
      · refine z_aload_n 31 0 dX4_note_30 rfl rfl ?_
        refine z_callVv 34 (mX4_makeRoom b0 x0 h) zyX4_makeRoom rfl w_793 (ci := 4) rfl (Nat.le_of_ble_eq_true rfl) (fun _ e9 => kX4_makeRoom e9) wm_yX4_makeRoom ws_yX4_makeRoom (Nat.le_of_ble_eq_true rfl) rfl (Nat.le_of_ble_eq_true rfl) dX4_note_31 rfl (fun h6 => ?_)
        refine z_aload_n 35 0 dX4_note_34 rfl rfl ?_
        refine z_getI 38 zC4 (Nat.le_of_ble_eq_true rfl) rfl w_121 dX4_note_35 rfl (fun v7 _ => ?_)
        refine z_if_lt 99 41 dX4_note_38 (by decide) rfl (fun c8 => ?_) (fun c8 => ?_)
        · exact z_sub [] rfl (BX4_note_99 b0 h6 )
        · refine z_aload_n 42 0 dX4_note_41 rfl rfl ?_
          refine z_getI 45 zC4 (Nat.le_of_ble_eq_true rfl) rfl w_121 dX4_note_42 rfl (fun v9 _ => ?_)
          refine z_aload_n 46 0 dX4_note_45 rfl rfl ?_
          refine z_getR 49 zC4 (Nat.le_of_ble_eq_true rfl) rfl w_120 dX4_note_46 rfl (fun v10 _ => ?_)
          refine z_alen 50 dX4_note_49 rfl (fun v11 _ => ?_)
          refine z_icmp_ge 99 53 dX4_note_50 (by decide) rfl (fun c12 => ?_) (fun c12 => ?_)
          · exact z_sub [] rfl (BX4_note_99 b0 h6 )
          · refine z_aload_n 54 0 dX4_note_53 rfl rfl ?_
            refine z_getR 57 zC4 (Nat.le_of_ble_eq_true rfl) rfl w_122 dX4_note_54 rfl (fun v13 _ => ?_)
            refine z_iload_n 58 1 dX4_note_57 rfl rfl ?_
            refine z_bipush (nI 32) 60 zkb_32 dX4_note_58 rfl ?_
            refine z_idiv 61 dX4_note_60 rfl (fun _ => ?_)
            refine z_letI (fun v14 _ => ?_)
            refine z_dup2 62 rfl rfl dX4_note_61 rfl ?_
            refine z_iaload 63 dX4_note_62 rfl (fun v15 _ => ?_)
            refine z_iconst (nI 1) 64 zki_1 dX4_note_63 rfl ?_
            refine z_iload_n 65 1 dX4_note_64 rfl rfl ?_
            refine z_bipush (nI 32) 67 zkb_32 dX4_note_65 rfl ?_
            refine z_irem 68 dX4_note_67 rfl (fun _ => ?_)
            refine z_ishl 69 dX4_note_68 rfl ?_
            refine z_ior 70 dX4_note_69 rfl ?_
            refine z_iastore 71 dX4_note_70 rfl (fun h16 _ => ?_)
            refine z_aload_n 72 0 dX4_note_71 rfl rfl ?_
            refine z_getR 75 zC4 (Nat.le_of_ble_eq_true rfl) rfl w_120 dX4_note_72 rfl (fun v17 _ => ?_)
            refine z_aload_n 76 0 dX4_note_75 rfl rfl ?_
            refine z_getI 79 zC4 (Nat.le_of_ble_eq_true rfl) rfl w_121 dX4_note_76 rfl (fun v18 _ => ?_)
            refine z_iload_n 80 1 dX4_note_79 rfl rfl ?_
            refine z_i2l 81 dX4_note_80 rfl ?_
            refine z_ldc2 84 w_810 dX4_note_81 rfl ?_
            refine z_iload_n 85 2 dX4_note_84 rfl rfl ?_
            refine z_i2l 86 dX4_note_85 rfl ?_
            refine z_lmul 87 dX4_note_86 rfl ?_
            refine z_ladd 88 dX4_note_87 rfl ?_
            refine z_lastore 89 dX4_note_88 rfl (fun h19 _ => ?_)
            refine z_aload_n 90 0 dX4_note_89 rfl rfl ?_
            refine z_dup 91 rfl dX4_note_90 rfl ?_
            refine z_getI 94 zC4 (Nat.le_of_ble_eq_true rfl) rfl w_121 dX4_note_91 rfl (fun v20 _ => ?_)
            refine z_iconst (nI 1) 95 zki_1 dX4_note_94 rfl ?_
            refine z_iadd 96 dX4_note_95 rfl ?_
            refine z_putI 99 zC4 (Nat.le_of_ble_eq_true rfl) rfl rfl rfl w_121 dX4_note_96 rfl (fun h21 _ => ?_)
            exact z_sub [] rfl (BX4_note_99 b0 h21 )
      · exact z_sub [] rfl (BX4_note_29 b0 h )
-- X4_findDifference
def bX4_findDifference_158 (h : ZH) : Option (Int32 × ZH) :=
  if (nI 0) = 0 ∨ (nI 0) = 1 then some ((nI 0), h) else none
theorem BX4_findDifference_158 (b0 : Nat) (h : ZH) : Zr zi b0 YX4_findDifference 5 158 [] [] h (bX4_findDifference_158 h) := by
  unfold bX4_findDifference_158
  refine z_iconst (nI 0) 159 zki_0 dX4_findDifference_158 rfl ?_
  exact z_zreturn dX4_findDifference_159 rfl
def kX4_findDifference_68 (self41 : Int32 × ZH → Option (Int32 × ZH)) (x0 : Nat) (x1 : Nat) (x2 : Nat) (x4 : Int32) (x5 : Int32) (self68 : Int32 × ZH → Option (Int32 × ZH)) (x6 : Int32) (h : ZH) : Option (Int32 × ZH) :=
  if (nI 4) ≤ x6 then (self41 ((x4 + (nI 1)), h)) else
  (if (nI 256) = 0 then none else
  (fX6_after x1 (x5 / (nI 256)) x6 h).bind fun q2 =>
  if (nI 256) = 0 then none else
  (fX6_after x2 (jrem x5 (nI 256)) x6 q2.2).bind fun q3 =>
  zl (((nI 256) * q2.1) + q3.1) fun v4 =>
  zl (((nI 4) * x4) + x6) fun v5 =>
  (fX4_isDifference v4 q3.2).bind fun q6 =>
  if q6.1 = 0 then ((fX4_note x0 v4 v5 q6.2).bind fun h8 =>
  self68 ((x6 + (nI 1)), h8)) else
  ((pI q6.2 4 x0 3 v5).bind fun h9 =>
  if (nI 1) = 0 ∨ (nI 1) = 1 then some ((nI 1), h9) else none))
def lX4_findDifference_68 (self41 : Int32 × ZH → Option (Int32 × ZH)) (x0 : Nat) (x1 : Nat) (x2 : Nat) (x4 : Int32) (x5 : Int32) : (Int32 × ZH → Option (Int32 × ZH)) → Int32 × ZH → Option (Int32 × ZH) := fun self s => kX4_findDifference_68 self41 x0 x1 x2 x4 x5 self s.1 s.2
theorem KX4_findDifference_68 (b0 : Nat) (self41 : Int32 × ZH → Option (Int32 × ZH)) (x0 : Nat) (x1 : Nat) (x2 : Nat) (x4 : Int32) (x5 : Int32) (hself41 : ∀ (y4 : Int32) (hh : ZH), Zr zi b0 YX4_findDifference 5 41 [(0, .ref (b0 + x0)), (1, .ref (b0 + x1)), (2, .ref (b0 + x2)), (4, .int y4)] [] hh (self41 (y4, hh))) (self68 : Int32 × ZH → Option (Int32 × ZH)) (hself68 : ∀ (y6 : Int32) (hh : ZH), Zr zi b0 YX4_findDifference 5 68 [(0, .ref (b0 + x0)), (1, .ref (b0 + x1)), (2, .ref (b0 + x2)), (4, .int x4), (5, .int x5), (6, .int y6)] [] hh (self68 (y6, hh))) (x6 : Int32) (h : ZH) : Zr zi b0 YX4_findDifference 5 68 [(0, .ref (b0 + x0)), (1, .ref (b0 + x1)), (2, .ref (b0 + x2)), (4, .int x4), (5, .int x5), (6, .int x6)] [] h (kX4_findDifference_68 self41 x0 x1 x2 x4 x5 self68 x6 h) := by
  unfold kX4_findDifference_68
  refine z_iload 70 5 dX4_findDifference_68 rfl rfl ?_
  refine z_iconst (nI 4) 71 zki_4 dX4_findDifference_70 rfl ?_
  refine z_icmp_ge 152 74 dX4_findDifference_71 (by decide) rfl (fun c1 => ?_) (fun c1 => ?_)
  · refine z_iinc (lv2 := [(4, .int (x4 + (nI 1))), (0, .ref (b0 + x0)), (1, .ref (b0 + x1)), (2, .ref (b0 + x2)), (5, .int x5), (6, .int x6)]) (nI 1) 155 3 dX4_findDifference_152 rfl rfl zki_1 (Nat.le_of_ble_eq_true rfl) rfl ?_
    refine z_goto 41 dX4_findDifference_155 (by decide) ?_
    exact z_sub [1, 2, 3, 0] rfl (hself41 (x4 + (nI 1)) h)
  · refine z_aload_n 75 1 dX4_findDifference_74 rfl rfl ?_
    refine z_iload 77 4 dX4_findDifference_75 rfl rfl ?_
    refine z_sipush (nI 256) 80 zks_256 dX4_findDifference_77 rfl ?_
    refine z_idiv 81 dX4_findDifference_80 rfl (fun _ => ?_)
    refine z_iload 83 5 dX4_findDifference_81 rfl rfl ?_
    refine z_callVi 86 (mX6_after b0 x1 (x5 / (nI 256)) x6 h) zyX6_after rfl w_811 (ci := 6) rfl (Nat.le_of_ble_eq_true rfl) (fun _ e9 => kX6_after e9) wm_yX6_after ws_yX6_after (Nat.le_of_ble_eq_true rfl) rfl (Nat.le_of_ble_eq_true rfl) dX4_findDifference_83 rfl (fun q2 => ?_)
    refine z_istore (lv2 := [(7, .int q2.1), (0, .ref (b0 + x0)), (1, .ref (b0 + x1)), (2, .ref (b0 + x2)), (4, .int x4), (5, .int x5), (6, .int x6)]) 88 dX4_findDifference_86 rfl (Nat.le_of_ble_eq_true rfl) rfl ?_
    refine z_aload_n 89 3 dX4_findDifference_88 rfl rfl ?_
    refine z_iload 91 5 dX4_findDifference_89 rfl rfl ?_
    refine z_sipush (nI 256) 94 zks_256 dX4_findDifference_91 rfl ?_
    refine z_irem 95 dX4_findDifference_94 rfl (fun _ => ?_)
    refine z_iload 97 6 dX4_findDifference_95 rfl rfl ?_
    refine z_callVi 100 (mX6_after b0 x2 (jrem x5 (nI 256)) x6 q2.2) zyX6_after rfl w_811 (ci := 6) rfl (Nat.le_of_ble_eq_true rfl) (fun _ e9 => kX6_after e9) wm_yX6_after ws_yX6_after (Nat.le_of_ble_eq_true rfl) rfl (Nat.le_of_ble_eq_true rfl) dX4_findDifference_97 rfl (fun q3 => ?_)
    refine z_istore (lv2 := [(8, .int q3.1), (7, .int q2.1), (0, .ref (b0 + x0)), (1, .ref (b0 + x1)), (2, .ref (b0 + x2)), (4, .int x4), (5, .int x5), (6, .int x6)]) 102 dX4_findDifference_100 rfl (Nat.le_of_ble_eq_true rfl) rfl ?_
    refine z_sipush (nI 256) 105 zks_256 dX4_findDifference_102 rfl ?_
    refine z_iload 107 1 dX4_findDifference_105 rfl rfl ?_
    refine z_imul 108 dX4_findDifference_107 rfl ?_
    refine z_iload 110 0 dX4_findDifference_108 rfl rfl ?_
    refine z_iadd 111 dX4_findDifference_110 rfl ?_
    refine z_letI (fun v4 _ => ?_)
    refine z_istore (lv2 := [(9, .int v4), (8, .int q3.1), (7, .int q2.1), (0, .ref (b0 + x0)), (1, .ref (b0 + x1)), (2, .ref (b0 + x2)), (4, .int x4), (5, .int x5), (6, .int x6)]) 113 dX4_findDifference_111 rfl (Nat.le_of_ble_eq_true rfl) rfl ?_
    refine z_iconst (nI 4) 114 zki_4 dX4_findDifference_113 rfl ?_
    refine z_iload 116 6 dX4_findDifference_114 rfl rfl ?_
    refine z_imul 117 dX4_findDifference_116 rfl ?_
    refine z_iload 119 8 dX4_findDifference_117 rfl rfl ?_
    refine z_iadd 120 dX4_findDifference_119 rfl ?_
    refine z_letI (fun v5 _ => ?_)
    refine z_istore (lv2 := [(10, .int v5), (9, .int v4), (8, .int q3.1), (7, .int q2.1), (0, .ref (b0 + x0)), (1, .ref (b0 + x1)), (2, .ref (b0 + x2)), (4, .int x4), (5, .int x5), (6, .int x6)]) 122 dX4_findDifference_120 rfl (Nat.le_of_ble_eq_true rfl) rfl ?_
    refine z_iload 124 1 dX4_findDifference_122 rfl rfl ?_
    refine z_callSi 127 (mX4_isDifference b0 v4 q3.2) zyX4_isDifference rfl w_786 wt_yX4_isDifference (Nat.le_of_ble_eq_true rfl) rfl (Nat.le_of_ble_eq_true rfl) dX4_findDifference_124 rfl (fun q6 => ?_)
    refine z_if_eq 138 130 dX4_findDifference_127 (by decide) rfl (fun c7 => ?_) (fun c7 => ?_)
    · refine z_aload_n 139 4 dX4_findDifference_138 rfl rfl ?_
      refine z_iload 141 1 dX4_findDifference_139 rfl rfl ?_
      refine z_iload 143 0 dX4_findDifference_141 rfl rfl ?_
      refine z_callVv 146 (mX4_note b0 x0 v4 v5 q6.2) zyX4_note rfl w_789 (ci := 4) rfl (Nat.le_of_ble_eq_true rfl) (fun _ e9 => kX4_note e9) wm_yX4_note ws_yX4_note (Nat.le_of_ble_eq_true rfl) rfl (Nat.le_of_ble_eq_true rfl) dX4_findDifference_143 rfl (fun h8 => ?_)
      refine z_iinc (lv2 := [(6, .int (x6 + (nI 1))), (10, .int v5), (9, .int v4), (8, .int q3.1), (7, .int q2.1), (0, .ref (b0 + x0)), (1, .ref (b0 + x1)), (2, .ref (b0 + x2)), (4, .int x4), (5, .int x5)]) (nI 1) 149 9 dX4_findDifference_146 rfl rfl zki_1 (Nat.le_of_ble_eq_true rfl) rfl ?_
      refine z_goto 68 dX4_findDifference_149 (by decide) ?_
      exact z_sub [5, 6, 7, 8, 9, 0] rfl (hself68 (x6 + (nI 1)) h8)
    · refine z_aload_n 131 4 dX4_findDifference_130 rfl rfl ?_
      refine z_iload 133 0 dX4_findDifference_131 rfl rfl ?_
      refine z_putI 136 zC4 (Nat.le_of_ble_eq_true rfl) rfl rfl rfl w_123 dX4_findDifference_133 rfl (fun h9 _ => ?_)
      refine z_iconst (nI 1) 137 zki_1 dX4_findDifference_136 rfl ?_
      exact z_zreturn dX4_findDifference_137 rfl
theorem BX4_findDifference_68 (b0 : Nat) (self41 : Int32 × ZH → Option (Int32 × ZH)) (x0 : Nat) (x1 : Nat) (x2 : Nat) (x4 : Int32) (x5 : Int32) (hself41 : ∀ (y4 : Int32) (hh : ZH), Zr zi b0 YX4_findDifference 5 41 [(0, .ref (b0 + x0)), (1, .ref (b0 + x1)), (2, .ref (b0 + x2)), (4, .int y4)] [] hh (self41 (y4, hh))) (n : Nat) (x6 : Int32) (h : ZH) : Zr zi b0 YX4_findDifference 5 68 [(0, .ref (b0 + x0)), (1, .ref (b0 + x1)), (2, .ref (b0 + x2)), (4, .int x4), (5, .int x5), (6, .int x6)] [] h (zloop (lX4_findDifference_68 self41 x0 x1 x2 x4 x5) n (x6, h)) :=
  zloop_Zr (fun s => [(0, .ref (b0 + x0)), (1, .ref (b0 + x1)), (2, .ref (b0 + x2)), (4, .int x4), (5, .int x5), (6, .int s.1)]) (fun _ => []) (fun s => s.2) (lX4_findDifference_68 self41 x0 x1 x2 x4 x5) (fun self hs s => KX4_findDifference_68 b0 self41 x0 x1 x2 x4 x5 hself41 self (fun y6 hh => hs (y6, hh)) s.1 s.2) n (x6, h)
def kX4_findDifference_41 (x0 : Nat) (x1 : Nat) (x2 : Nat) (self41 : Int32 × ZH → Option (Int32 × ZH)) (x4 : Int32) (h : ZH) : Option (Int32 × ZH) :=
  (gI h 4 x0 1).bind fun v1 =>
  if v1 ≤ x4 then (bX4_findDifference_158 h) else
  (if (65536 : Int32) ≤ x4 then (bX4_findDifference_158 h) else
  ((fX4_pairAt x0 x4 h).bind fun q4 =>
  zloop (lX4_findDifference_68 self41 x0 x1 x2 x4 q4.1) zfu ((nI 0), q4.2)))
def lX4_findDifference_41 (x0 : Nat) (x1 : Nat) (x2 : Nat) : (Int32 × ZH → Option (Int32 × ZH)) → Int32 × ZH → Option (Int32 × ZH) := fun self s => kX4_findDifference_41 x0 x1 x2 self s.1 s.2
theorem KX4_findDifference_41 (b0 : Nat) (x0 : Nat) (x1 : Nat) (x2 : Nat) (self41 : Int32 × ZH → Option (Int32 × ZH)) (hself41 : ∀ (y4 : Int32) (hh : ZH), Zr zi b0 YX4_findDifference 5 41 [(0, .ref (b0 + x0)), (1, .ref (b0 + x1)), (2, .ref (b0 + x2)), (4, .int y4)] [] hh (self41 (y4, hh))) (x4 : Int32) (h : ZH) : Zr zi b0 YX4_findDifference 5 41 [(0, .ref (b0 + x0)), (1, .ref (b0 + x1)), (2, .ref (b0 + x2)), (4, .int x4)] [] h (kX4_findDifference_41 x0 x1 x2 self41 x4 h) := by
  unfold kX4_findDifference_41
  refine z_iload 43 3 dX4_findDifference_41 rfl rfl ?_
  refine z_aload_n 44 0 dX4_findDifference_43 rfl rfl ?_
  refine z_getI 47 zC4 (Nat.le_of_ble_eq_true rfl) rfl w_121 dX4_findDifference_44 rfl (fun v1 _ => ?_)
  refine z_icmp_ge 158 50 dX4_findDifference_47 (by decide) rfl (fun c2 => ?_) (fun c2 => ?_)
  · exact z_sub [] rfl (BX4_findDifference_158 b0 h )
  · refine z_iload 52 3 dX4_findDifference_50 rfl rfl ?_
    refine z_ldc 54 w_797 dX4_findDifference_52 rfl ?_
    refine z_icmp_ge 158 57 dX4_findDifference_54 (by decide) rfl (fun c3 => ?_) (fun c3 => ?_)
    · exact z_sub [] rfl (BX4_findDifference_158 b0 h )
    · refine z_aload_n 58 0 dX4_findDifference_57 rfl rfl ?_
      refine z_iload 60 3 dX4_findDifference_58 rfl rfl ?_
      refine z_callVi 63 (mX4_pairAt b0 x0 x4 h) zyX4_pairAt rfl w_779 (ci := 4) rfl (Nat.le_of_ble_eq_true rfl) (fun _ e9 => kX4_pairAt e9) wm_yX4_pairAt ws_yX4_pairAt (Nat.le_of_ble_eq_true rfl) rfl (Nat.le_of_ble_eq_true rfl) dX4_findDifference_60 rfl (fun q4 => ?_)
      refine z_istore (lv2 := [(5, .int q4.1), (0, .ref (b0 + x0)), (1, .ref (b0 + x1)), (2, .ref (b0 + x2)), (4, .int x4)]) 65 dX4_findDifference_63 rfl (Nat.le_of_ble_eq_true rfl) rfl ?_
      refine z_iconst (nI 0) 66 zki_0 dX4_findDifference_65 rfl ?_
      refine z_istore (lv2 := [(6, .int (nI 0)), (5, .int q4.1), (0, .ref (b0 + x0)), (1, .ref (b0 + x1)), (2, .ref (b0 + x2)), (4, .int x4)]) 68 dX4_findDifference_66 rfl (Nat.le_of_ble_eq_true rfl) rfl ?_
      exact z_sub [2, 3, 4, 5, 1, 0] rfl (BX4_findDifference_68 b0 self41 x0 x1 x2 x4 q4.1 hself41 zfu (nI 0) q4.2)
theorem BX4_findDifference_41 (b0 : Nat) (x0 : Nat) (x1 : Nat) (x2 : Nat) (n : Nat) (x4 : Int32) (h : ZH) : Zr zi b0 YX4_findDifference 5 41 [(0, .ref (b0 + x0)), (1, .ref (b0 + x1)), (2, .ref (b0 + x2)), (4, .int x4)] [] h (zloop (lX4_findDifference_41 x0 x1 x2) n (x4, h)) :=
  zloop_Zr (fun s => [(0, .ref (b0 + x0)), (1, .ref (b0 + x1)), (2, .ref (b0 + x2)), (4, .int s.1)]) (fun _ => []) (fun s => s.2) (lX4_findDifference_41 x0 x1 x2) (fun self hs s => KX4_findDifference_41 b0 x0 x1 x2 self (fun y4 hh => hs (y4, hh)) s.1 s.2) n (x4, h)
def fX4_findDifference (x0 : Nat) (x1 : Nat) (x2 : Nat) (h : ZH) : Option (Int32 × ZH) :=
  if x0 < zn h ∧ zK h x0 = 4 then ((fX4_forget x0 h).bind fun h1 =>
  (fX6_start x1 h1).bind fun q2 =>
  (fX6_start x2 q2.2).bind fun q3 =>
  zl (((nI 256) * q2.1) + q3.1) fun v4 =>
  (pI q3.2 4 x0 3 (-1 : Int32)).bind fun h5 =>
  (fX4_isDifference v4 h5).bind fun q6 =>
  if q6.1 = 0 then ((fX4_note x0 v4 (nI 0) q6.2).bind fun h8 =>
  zloop (lX4_findDifference_41 x0 x1 x2) zfu ((nI 0), h8)) else
  (if (nI 1) = 0 ∨ (nI 1) = 1 then some ((nI 1), q6.2) else none)) else none
theorem kX4_findDifference {x0 : Nat} {x1 : Nat} {x2 : Nat} {h : ZH} {x : Int32 × ZH} (e : fX4_findDifference x0 x1 x2 h = some x) : x0 < zn h ∧ zK h x0 = 4 := by
  unfold fX4_findDifference at e
  exact zguard e
theorem mX4_findDifference (b0 : Nat) (x0 : Nat) (x1 : Nat) (x2 : Nat) (h : ZH) : ZM zi b0 YX4_findDifference 5 [.ref (b0 + x0), .ref (b0 + x1), .ref (b0 + x2)] h (fX4_findDifference x0 x1 x2 h) := by
  unfold fX4_findDifference
  refine ZM.of (by decide) rfl (Nat.le_of_ble_eq_true rfl) (fun _ => trivial) ?_
  refine z_sub (lv2 := [(0, .ref (b0 + x0)), (1, .ref (b0 + x1)), (2, .ref (b0 + x2))]) [0, 1, 2] rfl ?_
  refine z_guard (fun _ => ?_)
  refine z_aload_n 1 0 dX4_findDifference_0 rfl rfl ?_
  refine z_callVv 4 (mX4_forget b0 x0 h) zyX4_forget rfl w_775 (ci := 4) rfl (Nat.le_of_ble_eq_true rfl) (fun _ e9 => kX4_forget e9) wm_yX4_forget ws_yX4_forget (Nat.le_of_ble_eq_true rfl) rfl (Nat.le_of_ble_eq_true rfl) dX4_findDifference_1 rfl (fun h1 => ?_)
  refine z_sipush (nI 256) 7 zks_256 dX4_findDifference_4 rfl ?_
  refine z_aload_n 8 1 dX4_findDifference_7 rfl rfl ?_
  refine z_callVi 11 (mX6_start b0 x1 h1) zyX6_start rfl w_785 (ci := 6) rfl (Nat.le_of_ble_eq_true rfl) (fun _ e9 => kX6_start e9) wm_yX6_start ws_yX6_start (Nat.le_of_ble_eq_true rfl) rfl (Nat.le_of_ble_eq_true rfl) dX4_findDifference_8 rfl (fun q2 => ?_)
  refine z_imul 12 dX4_findDifference_11 rfl ?_
  refine z_aload_n 13 2 dX4_findDifference_12 rfl rfl ?_
  refine z_callVi 16 (mX6_start b0 x2 q2.2) zyX6_start rfl w_785 (ci := 6) rfl (Nat.le_of_ble_eq_true rfl) (fun _ e9 => kX6_start e9) wm_yX6_start ws_yX6_start (Nat.le_of_ble_eq_true rfl) rfl (Nat.le_of_ble_eq_true rfl) dX4_findDifference_13 rfl (fun q3 => ?_)
  refine z_iadd 17 dX4_findDifference_16 rfl ?_
  refine z_letI (fun v4 _ => ?_)
  refine z_istore_n (lv2 := [(3, .int v4), (0, .ref (b0 + x0)), (1, .ref (b0 + x1)), (2, .ref (b0 + x2))]) 18 dX4_findDifference_17 rfl (Nat.le_of_ble_eq_true rfl) rfl ?_
  refine z_aload_n 19 1 dX4_findDifference_18 rfl rfl ?_
  refine z_iconst (-1 : Int32) 20 zki_m1 dX4_findDifference_19 rfl ?_
  refine z_putI 23 zC4 (Nat.le_of_ble_eq_true rfl) rfl rfl rfl w_123 dX4_findDifference_20 rfl (fun h5 _ => ?_)
  refine z_iload_n 24 0 dX4_findDifference_23 rfl rfl ?_
  refine z_callSi 27 (mX4_isDifference b0 v4 h5) zyX4_isDifference rfl w_786 wt_yX4_isDifference (Nat.le_of_ble_eq_true rfl) rfl (Nat.le_of_ble_eq_true rfl) dX4_findDifference_24 rfl (fun q6 => ?_)
  refine z_if_eq 32 30 dX4_findDifference_27 (by decide) rfl (fun c7 => ?_) (fun c7 => ?_)
  · refine z_aload_n 33 1 dX4_findDifference_32 rfl rfl ?_
    refine z_iload_n 34 0 dX4_findDifference_33 rfl rfl ?_
    refine z_iconst (nI 0) 35 zki_0 dX4_findDifference_34 rfl ?_
    refine z_callVv 38 (mX4_note b0 x0 v4 (nI 0) q6.2) zyX4_note rfl w_789 (ci := 4) rfl (Nat.le_of_ble_eq_true rfl) (fun _ e9 => kX4_note e9) wm_yX4_note ws_yX4_note (Nat.le_of_ble_eq_true rfl) rfl (Nat.le_of_ble_eq_true rfl) dX4_findDifference_35 rfl (fun h8 => ?_)
    refine z_iconst (nI 0) 39 zki_0 dX4_findDifference_38 rfl ?_
    refine z_istore (lv2 := [(4, .int (nI 0)), (3, .int v4), (0, .ref (b0 + x0)), (1, .ref (b0 + x1)), (2, .ref (b0 + x2))]) 41 dX4_findDifference_39 rfl (Nat.le_of_ble_eq_true rfl) rfl ?_
    exact z_sub [2, 3, 4, 0] rfl (BX4_findDifference_41 b0 x0 x1 x2 zfu (nI 0) h8)
  · refine z_iconst (nI 1) 31 zki_1 dX4_findDifference_30 rfl ?_
    exact z_zreturn dX4_findDifference_31 rfl
-- X4_arrivalAt
def bX4_arrivalAt_46 (t0 : Int32) (h : ZH) : Option (Int32 × ZH) :=
  some (t0, h)
theorem BX4_arrivalAt_46 (b0 : Nat) (t0 : Int32) (h : ZH) : Zr zi b0 YX4_arrivalAt 1 46 [] [.int t0] h (bX4_arrivalAt_46 t0 h) := by
  unfold bX4_arrivalAt_46
  exact z_ireturn dX4_arrivalAt_46 rfl
def bX4_arrivalAt_26 (x0 : Nat) (x1 : Int32) (t0 : Int32) (h : ZH) : Option (Int32 × ZH) :=
  if t0 = 0 then (bX4_arrivalAt_46 (-1 : Int32) h) else
  ((gR h 4 x0 0).bind fun v2 =>
  (lJ h v2 x1).bind fun v3 =>
  if (65536 : Int64) = 0 then none else
  bX4_arrivalAt_46 ((v3 / (65536 : Int64)).toInt32) h)
theorem BX4_arrivalAt_26 (b0 : Nat) (x0 : Nat) (x1 : Int32) (t0 : Int32) (h : ZH) : Zr zi b0 YX4_arrivalAt 1 26 [(0, .ref (b0 + x0)), (1, .int x1)] [.int t0] h (bX4_arrivalAt_26 x0 x1 t0 h) := by
  unfold bX4_arrivalAt_26
  refine z_istore_n (lv2 := [(2, .int t0), (0, .ref (b0 + x0)), (1, .int x1)]) 27 dX4_arrivalAt_26 rfl (Nat.le_of_ble_eq_true rfl) rfl ?_
  refine z_iload_n 28 0 dX4_arrivalAt_27 rfl rfl ?_
  refine z_if_eq 45 31 dX4_arrivalAt_28 (by decide) rfl (fun c1 => ?_) (fun c1 => ?_)
  · refine z_iconst (-1 : Int32) 46 zki_m1 dX4_arrivalAt_45 rfl ?_
    exact z_sub [] rfl (BX4_arrivalAt_46 b0 (-1 : Int32) h )
  · refine z_aload_n 32 1 dX4_arrivalAt_31 rfl rfl ?_
    refine z_getR 35 zC4 (Nat.le_of_ble_eq_true rfl) rfl w_120 dX4_arrivalAt_32 rfl (fun v2 _ => ?_)
    refine z_iload_n 36 2 dX4_arrivalAt_35 rfl rfl ?_
    refine z_laload 37 dX4_arrivalAt_36 rfl (fun v3 _ => ?_)
    refine z_ldc2 40 w_810 dX4_arrivalAt_37 rfl ?_
    refine z_ldiv 41 dX4_arrivalAt_40 rfl (fun _ => ?_)
    refine z_l2i 42 dX4_arrivalAt_41 rfl ?_
    refine z_goto 46 dX4_arrivalAt_42 (by decide) ?_
    exact z_sub [] rfl (BX4_arrivalAt_46 b0 ((v3 / (65536 : Int64)).toInt32) h )
def bX4_arrivalAt_25 (x0 : Nat) (x1 : Int32) (h : ZH) : Option (Int32 × ZH) :=
  bX4_arrivalAt_26 x0 x1 (nI 0) h
theorem BX4_arrivalAt_25 (b0 : Nat) (x0 : Nat) (x1 : Int32) (h : ZH) : Zr zi b0 YX4_arrivalAt 1 25 [(0, .ref (b0 + x0)), (1, .int x1)] [] h (bX4_arrivalAt_25 x0 x1 h) := by
  unfold bX4_arrivalAt_25
  refine z_iconst (nI 0) 26 zki_0 dX4_arrivalAt_25 rfl ?_
  exact z_sub [0, 1] rfl (BX4_arrivalAt_26 b0 x0 x1 (nI 0) h )
def fX4_arrivalAt (x0 : Nat) (x1 : Int32) (h : ZH) : Option (Int32 × ZH) :=
  if x0 < zn h ∧ zK h x0 = 4 then (if x1 ≤ 0 then (bX4_arrivalAt_25 x0 x1 h) else
  ((gI h 4 x0 1).bind fun v2 =>
  if v2 ≤ x1 then (bX4_arrivalAt_25 x0 x1 h) else
  ((gR h 4 x0 0).bind fun v4 =>
  (zlen h v4).bind fun v5 =>
  if v5 ≤ x1 then (bX4_arrivalAt_25 x0 x1 h) else
  (bX4_arrivalAt_26 x0 x1 (nI 1) h)))) else none
theorem kX4_arrivalAt {x0 : Nat} {x1 : Int32} {h : ZH} {x : Int32 × ZH} (e : fX4_arrivalAt x0 x1 h = some x) : x0 < zn h ∧ zK h x0 = 4 := by
  unfold fX4_arrivalAt at e
  exact zguard e
theorem mX4_arrivalAt (b0 : Nat) (x0 : Nat) (x1 : Int32) (h : ZH) : ZM zi b0 YX4_arrivalAt 1 [.ref (b0 + x0), .int x1] h (fX4_arrivalAt x0 x1 h) := by
  unfold fX4_arrivalAt
  refine ZM.of (by decide) rfl (Nat.le_of_ble_eq_true rfl) (fun _ => trivial) ?_
  refine z_sub (lv2 := [(0, .ref (b0 + x0)), (1, .int x1)]) [0, 1] rfl ?_
  refine z_guard (fun _ => ?_)
  refine z_iload_n 1 1 dX4_arrivalAt_0 rfl rfl ?_
  refine z_if_le 25 4 dX4_arrivalAt_1 (by decide) rfl (fun c1 => ?_) (fun c1 => ?_)
  · exact z_sub [0, 1] rfl (BX4_arrivalAt_25 b0 x0 x1 h )
  · refine z_iload_n 5 1 dX4_arrivalAt_4 rfl rfl ?_
    refine z_aload_n 6 0 dX4_arrivalAt_5 rfl rfl ?_
    refine z_getI 9 zC4 (Nat.le_of_ble_eq_true rfl) rfl w_121 dX4_arrivalAt_6 rfl (fun v2 _ => ?_)
    refine z_icmp_ge 25 12 dX4_arrivalAt_9 (by decide) rfl (fun c3 => ?_) (fun c3 => ?_)
    · exact z_sub [0, 1] rfl (BX4_arrivalAt_25 b0 x0 x1 h )
    · refine z_iload_n 13 1 dX4_arrivalAt_12 rfl rfl ?_
      refine z_aload_n 14 0 dX4_arrivalAt_13 rfl rfl ?_
      refine z_getR 17 zC4 (Nat.le_of_ble_eq_true rfl) rfl w_120 dX4_arrivalAt_14 rfl (fun v4 _ => ?_)
      refine z_alen 18 dX4_arrivalAt_17 rfl (fun v5 _ => ?_)
      refine z_icmp_ge 25 21 dX4_arrivalAt_18 (by decide) rfl (fun c6 => ?_) (fun c6 => ?_)
      · exact z_sub [0, 1] rfl (BX4_arrivalAt_25 b0 x0 x1 h )
      · refine z_iconst (nI 1) 22 zki_1 dX4_arrivalAt_21 rfl ?_
        refine z_goto 26 dX4_arrivalAt_22 (by decide) ?_
        exact z_sub [0, 1] rfl (BX4_arrivalAt_26 b0 x0 x1 (nI 1) h )
-- X4_spellDifference
def bX4_spellDifference_42 (x1 : Nat) (h : ZH) : Option (ZH) :=
  (fX7_turnAround x1 h).bind fun h1 =>
  some h1
theorem BX4_spellDifference_42 (b0 : Nat) (x1 : Nat) (h : ZH) : Zr zv b0 YX4_spellDifference 3 42 [(1, .ref (b0 + x1))] [] h (bX4_spellDifference_42 x1 h) := by
  unfold bX4_spellDifference_42
  refine z_aload_n 43 0 dX4_spellDifference_42 rfl rfl ?_
  refine z_callVv 46 (mX7_turnAround b0 x1 h) zyX7_turnAround rfl w_822 (ci := 7) rfl (Nat.le_of_ble_eq_true rfl) (fun _ e9 => kX7_turnAround e9) wm_yX7_turnAround ws_yX7_turnAround (Nat.le_of_ble_eq_true rfl) rfl (Nat.le_of_ble_eq_true rfl) dX4_spellDifference_43 rfl (fun h1 => ?_)
  exact z_return dX4_spellDifference_46 rfl
def kX4_spellDifference_11 (x0 : Nat) (x1 : Nat) (self11 : Int32 × Int32 × ZH → Option (ZH)) (x2 : Int32) (x3 : Int32) (h : ZH) : Option (ZH) :=
  if (65536 : Int32) ≤ x3 then (bX4_spellDifference_42 x1 h) else
  (if x2 < 0 then (bX4_spellDifference_42 x1 h) else
  (if (nI 4) = 0 then none else
  (fX7_addLetter x1 (jrem x2 (nI 4)) h).bind fun h3 =>
  if (nI 4) = 0 then none else
  (fX4_arrivalAt x0 (x2 / (nI 4)) h3).bind fun q4 =>
  self11 (q4.1, (x3 + (nI 1)), q4.2)))
def lX4_spellDifference_11 (x0 : Nat) (x1 : Nat) : (Int32 × Int32 × ZH → Option (ZH)) → Int32 × Int32 × ZH → Option (ZH) := fun self s => kX4_spellDifference_11 x0 x1 self s.1 s.2.1 s.2.2
theorem KX4_spellDifference_11 (b0 : Nat) (x0 : Nat) (x1 : Nat) (self11 : Int32 × Int32 × ZH → Option (ZH)) (hself11 : ∀ (y2 : Int32) (y3 : Int32) (hh : ZH), Zr zv b0 YX4_spellDifference 3 11 [(0, .ref (b0 + x0)), (1, .ref (b0 + x1)), (2, .int y2), (3, .int y3)] [] hh (self11 (y2, y3, hh))) (x2 : Int32) (x3 : Int32) (h : ZH) : Zr zv b0 YX4_spellDifference 3 11 [(0, .ref (b0 + x0)), (1, .ref (b0 + x1)), (2, .int x2), (3, .int x3)] [] h (kX4_spellDifference_11 x0 x1 self11 x2 x3 h) := by
  unfold kX4_spellDifference_11
  refine z_iload_n 12 3 dX4_spellDifference_11 rfl rfl ?_
  refine z_ldc 14 w_797 dX4_spellDifference_12 rfl ?_
  refine z_icmp_ge 42 17 dX4_spellDifference_14 (by decide) rfl (fun c1 => ?_) (fun c1 => ?_)
  · exact z_sub [1] rfl (BX4_spellDifference_42 b0 x1 h )
  · refine z_iload_n 18 2 dX4_spellDifference_17 rfl rfl ?_
    refine z_if_lt 42 21 dX4_spellDifference_18 (by decide) rfl (fun c2 => ?_) (fun c2 => ?_)
    · exact z_sub [1] rfl (BX4_spellDifference_42 b0 x1 h )
    · refine z_aload_n 22 1 dX4_spellDifference_21 rfl rfl ?_
      refine z_iload_n 23 2 dX4_spellDifference_22 rfl rfl ?_
      refine z_iconst (nI 4) 24 zki_4 dX4_spellDifference_23 rfl ?_
      refine z_irem 25 dX4_spellDifference_24 rfl (fun _ => ?_)
      refine z_callVv 28 (mX7_addLetter b0 x1 (jrem x2 (nI 4)) h) zyX7_addLetter rfl w_817 (ci := 7) rfl (Nat.le_of_ble_eq_true rfl) (fun _ e9 => kX7_addLetter e9) wm_yX7_addLetter ws_yX7_addLetter (Nat.le_of_ble_eq_true rfl) rfl (Nat.le_of_ble_eq_true rfl) dX4_spellDifference_25 rfl (fun h3 => ?_)
      refine z_aload_n 29 0 dX4_spellDifference_28 rfl rfl ?_
      refine z_iload_n 30 2 dX4_spellDifference_29 rfl rfl ?_
      refine z_iconst (nI 4) 31 zki_4 dX4_spellDifference_30 rfl ?_
      refine z_idiv 32 dX4_spellDifference_31 rfl (fun _ => ?_)
      refine z_callVi 35 (mX4_arrivalAt b0 x0 (x2 / (nI 4)) h3) zyX4_arrivalAt rfl w_818 (ci := 4) rfl (Nat.le_of_ble_eq_true rfl) (fun _ e9 => kX4_arrivalAt e9) wm_yX4_arrivalAt ws_yX4_arrivalAt (Nat.le_of_ble_eq_true rfl) rfl (Nat.le_of_ble_eq_true rfl) dX4_spellDifference_32 rfl (fun q4 => ?_)
      refine z_istore_n (lv2 := [(2, .int q4.1), (0, .ref (b0 + x0)), (1, .ref (b0 + x1)), (3, .int x3)]) 36 dX4_spellDifference_35 rfl (Nat.le_of_ble_eq_true rfl) rfl ?_
      refine z_iinc (lv2 := [(3, .int (x3 + (nI 1))), (2, .int q4.1), (0, .ref (b0 + x0)), (1, .ref (b0 + x1))]) (nI 1) 39 3 dX4_spellDifference_36 rfl rfl zki_1 (Nat.le_of_ble_eq_true rfl) rfl ?_
      refine z_goto 11 dX4_spellDifference_39 (by decide) ?_
      exact z_sub [2, 3, 1, 0] rfl (hself11 q4.1 (x3 + (nI 1)) q4.2)
theorem BX4_spellDifference_11 (b0 : Nat) (x0 : Nat) (x1 : Nat) (n : Nat) (x2 : Int32) (x3 : Int32) (h : ZH) : Zr zv b0 YX4_spellDifference 3 11 [(0, .ref (b0 + x0)), (1, .ref (b0 + x1)), (2, .int x2), (3, .int x3)] [] h (zloop (lX4_spellDifference_11 x0 x1) n (x2, x3, h)) :=
  zloop_Zr (fun s => [(0, .ref (b0 + x0)), (1, .ref (b0 + x1)), (2, .int s.1), (3, .int s.2.1)]) (fun _ => []) (fun s => s.2.2) (lX4_spellDifference_11 x0 x1) (fun self hs s => KX4_spellDifference_11 b0 x0 x1 self (fun y2 y3 hh => hs (y2, y3, hh)) s.1 s.2.1 s.2.2) n (x2, x3, h)
def fX4_spellDifference (x0 : Nat) (x1 : Nat) (h : ZH) : Option (ZH) :=
  if x0 < zn h ∧ zK h x0 = 4 then ((fX7_clear x1 h).bind fun h1 =>
  (gI h1 4 x0 3).bind fun v2 =>
  zloop (lX4_spellDifference_11 x0 x1) zfu (v2, (nI 0), h1)) else none
theorem kX4_spellDifference {x0 : Nat} {x1 : Nat} {h : ZH} {x : ZH} (e : fX4_spellDifference x0 x1 h = some x) : x0 < zn h ∧ zK h x0 = 4 := by
  unfold fX4_spellDifference at e
  exact zguard e
theorem mX4_spellDifference (b0 : Nat) (x0 : Nat) (x1 : Nat) (h : ZH) : ZM zv b0 YX4_spellDifference 3 [.ref (b0 + x0), .ref (b0 + x1)] h (fX4_spellDifference x0 x1 h) := by
  unfold fX4_spellDifference
  refine ZM.of (by decide) rfl (Nat.le_of_ble_eq_true rfl) (fun _ => trivial) ?_
  refine z_sub (lv2 := [(0, .ref (b0 + x0)), (1, .ref (b0 + x1))]) [0, 1] rfl ?_
  refine z_guard (fun _ => ?_)
  refine z_aload_n 1 1 dX4_spellDifference_0 rfl rfl ?_
  refine z_callVv 4 (mX7_clear b0 x1 h) zyX7_clear rfl w_816 (ci := 7) rfl (Nat.le_of_ble_eq_true rfl) (fun _ e9 => kX7_clear e9) wm_yX7_clear ws_yX7_clear (Nat.le_of_ble_eq_true rfl) rfl (Nat.le_of_ble_eq_true rfl) dX4_spellDifference_1 rfl (fun h1 => ?_)
  refine z_aload_n 5 0 dX4_spellDifference_4 rfl rfl ?_
  refine z_getI 8 zC4 (Nat.le_of_ble_eq_true rfl) rfl w_123 dX4_spellDifference_5 rfl (fun v2 _ => ?_)
  refine z_istore_n (lv2 := [(2, .int v2), (0, .ref (b0 + x0)), (1, .ref (b0 + x1))]) 9 dX4_spellDifference_8 rfl (Nat.le_of_ble_eq_true rfl) rfl ?_
  refine z_iconst (nI 0) 10 zki_0 dX4_spellDifference_9 rfl ?_
  refine z_istore_n (lv2 := [(3, .int (nI 0)), (2, .int v2), (0, .ref (b0 + x0)), (1, .ref (b0 + x1))]) 11 dX4_spellDifference_10 rfl (Nat.le_of_ble_eq_true rfl) rfl ?_
  exact z_sub [2, 3, 1, 0] rfl (BX4_spellDifference_11 b0 x0 x1 zfu v2 (nI 0) h1)
-- X5_init
def fX5_init (x0 : Nat) (h : ZH) : Option (ZH) :=
  if x0 < zn h ∧ zK h x0 = 5 then ((zala h 15 (nI 64)).bind fun q1 =>
  (pR q1.2 5 x0 0 q1.1).bind fun h2 =>
  (zala h2 15 (nI 64)).bind fun q3 =>
  (pR q3.2 5 x0 1 q3.1).bind fun h4 =>
  (zala h4 15 (nI 64)).bind fun q5 =>
  (pR q5.2 5 x0 2 q5.1).bind fun h6 =>
  (zala h6 15 (nI 9)).bind fun q7 =>
  (pR q7.2 5 x0 3 q7.1).bind fun h8 =>
  some h8) else none
theorem kX5_init {x0 : Nat} {h : ZH} {x : ZH} (e : fX5_init x0 h = some x) : x0 < zn h ∧ zK h x0 = 5 := by
  unfold fX5_init at e
  exact zguard e
theorem mX5_init (b0 : Nat) (x0 : Nat) (h : ZH) : ZM zv b0 YX5_init 2 [.ref (b0 + x0)] h (fX5_init x0 h) := by
  unfold fX5_init
  refine ZM.of (by decide) rfl (Nat.le_of_ble_eq_true rfl) (fun _ => trivial) ?_
  refine z_sub (lv2 := [(0, .ref (b0 + x0))]) [0] rfl ?_
  refine z_guard (fun _ => ?_)
  refine z_aload_n 1 0 dX5_init_0 rfl rfl ?_
  refine z_objInit 4 w_205 wm_Lib_objectInit wc_Lib_objectInit (Nat.le_of_ble_eq_true rfl) (Nat.le_of_ble_eq_true rfl) dX5_init_1 rfl ?_
  refine z_aload_n 5 0 dX5_init_4 rfl rfl ?_
  refine z_bipush (nI 64) 7 zkb_64 dX5_init_5 rfl ?_
  refine z_newA_long 9 wa_long dX5_init_7 rfl (fun q1 => ?_)
  refine z_putF 12 zC5 (Nat.le_of_ble_eq_true rfl) rfl rfl rfl rfl rfl (Or.inl ⟨_, rfl⟩) w_206 dX5_init_9 rfl (fun h2 _ => ?_)
  refine z_aload_n 13 0 dX5_init_12 rfl rfl ?_
  refine z_bipush (nI 64) 15 zkb_64 dX5_init_13 rfl ?_
  refine z_newA_long 17 wa_long dX5_init_15 rfl (fun q3 => ?_)
  refine z_putF 20 zC5 (Nat.le_of_ble_eq_true rfl) rfl rfl rfl rfl rfl (Or.inl ⟨_, rfl⟩) w_207 dX5_init_17 rfl (fun h4 _ => ?_)
  refine z_aload_n 21 0 dX5_init_20 rfl rfl ?_
  refine z_bipush (nI 64) 23 zkb_64 dX5_init_21 rfl ?_
  refine z_newA_long 25 wa_long dX5_init_23 rfl (fun q5 => ?_)
  refine z_putF 28 zC5 (Nat.le_of_ble_eq_true rfl) rfl rfl rfl rfl rfl (Or.inl ⟨_, rfl⟩) w_208 dX5_init_25 rfl (fun h6 _ => ?_)
  refine z_aload_n 29 0 dX5_init_28 rfl rfl ?_
  refine z_bipush (nI 9) 31 zkb_9 dX5_init_29 rfl ?_
  refine z_newA_long 33 wa_long dX5_init_31 rfl (fun q7 => ?_)
  refine z_putF 36 zC5 (Nat.le_of_ble_eq_true rfl) rfl rfl rfl rfl rfl (Or.inl ⟨_, rfl⟩) w_209 dX5_init_33 rfl (fun h8 _ => ?_)
  exact z_return dX5_init_36 rfl
-- X5_coefficient
def bX5_coefficient_20 (t0 : Int64) (h : ZH) : Option (Int64 × ZH) :=
  some (t0, h)
theorem BX5_coefficient_20 (b0 : Nat) (t0 : Int64) (h : ZH) : Zr zj b0 YX5_coefficient 1 20 [] [.long t0] h (bX5_coefficient_20 t0 h) := by
  unfold bX5_coefficient_20
  exact z_lreturn dX5_coefficient_20 rfl
def bX5_coefficient_19 (h : ZH) : Option (Int64 × ZH) :=
  bX5_coefficient_20 (lN 0) h
theorem BX5_coefficient_19 (b0 : Nat) (h : ZH) : Zr zj b0 YX5_coefficient 1 19 [] [] h (bX5_coefficient_19 h) := by
  unfold bX5_coefficient_19
  refine z_lconst (lN 0) 20 rfl dX5_coefficient_19 rfl ?_
  exact z_sub [] rfl (BX5_coefficient_20 b0 (lN 0) h )
def fX5_coefficient (x0 : Nat) (x1 : Int32) (h : ZH) : Option (Int64 × ZH) :=
  if x0 < zn h ∧ zK h x0 = 5 then (if x1 < 0 then (bX5_coefficient_19 h) else
  (if (nI 8) < x1 then (bX5_coefficient_19 h) else
  ((gR h 5 x0 3).bind fun v3 =>
  (lJ h v3 x1).bind fun v4 =>
  bX5_coefficient_20 v4 h))) else none
theorem kX5_coefficient {x0 : Nat} {x1 : Int32} {h : ZH} {x : Int64 × ZH} (e : fX5_coefficient x0 x1 h = some x) : x0 < zn h ∧ zK h x0 = 5 := by
  unfold fX5_coefficient at e
  exact zguard e
theorem mX5_coefficient (b0 : Nat) (x0 : Nat) (x1 : Int32) (h : ZH) : ZM zj b0 YX5_coefficient 1 [.ref (b0 + x0), .int x1] h (fX5_coefficient x0 x1 h) := by
  unfold fX5_coefficient
  refine ZM.of (by decide) rfl (Nat.le_of_ble_eq_true rfl) (fun _ => trivial) ?_
  refine z_sub (lv2 := [(0, .ref (b0 + x0)), (1, .int x1)]) [0, 1] rfl ?_
  refine z_guard (fun _ => ?_)
  refine z_iload_n 1 1 dX5_coefficient_0 rfl rfl ?_
  refine z_if_lt 19 4 dX5_coefficient_1 (by decide) rfl (fun c1 => ?_) (fun c1 => ?_)
  · exact z_sub [] rfl (BX5_coefficient_19 b0 h )
  · refine z_iload_n 5 1 dX5_coefficient_4 rfl rfl ?_
    refine z_bipush (nI 8) 7 zkb_8 dX5_coefficient_5 rfl ?_
    refine z_icmp_gt 19 10 dX5_coefficient_7 (by decide) rfl (fun c2 => ?_) (fun c2 => ?_)
    · exact z_sub [] rfl (BX5_coefficient_19 b0 h )
    · refine z_aload_n 11 0 dX5_coefficient_10 rfl rfl ?_
      refine z_getR 14 zC5 (Nat.le_of_ble_eq_true rfl) rfl w_209 dX5_coefficient_11 rfl (fun v3 _ => ?_)
      refine z_iload_n 15 1 dX5_coefficient_14 rfl rfl ?_
      refine z_laload 16 dX5_coefficient_15 rfl (fun v4 _ => ?_)
      refine z_goto 20 dX5_coefficient_16 (by decide) ?_
      exact z_sub [] rfl (BX5_coefficient_20 b0 v4 h )
-- J7_fill_d0a16
def kJ7_fill_d0a16_6 (x0 : Nat) (x1 : Int64) (x4 : Int32) (self6 : Int32 × ZH → Option (ZH)) (x3 : Int32) (h : ZH) : Option (ZH) :=
  if x4 ≤ x3 then (some h) else
  ((sJ h x0 x3 x1).bind fun h2 =>
  self6 ((x3 + (nI 1)), h2))
def lJ7_fill_d0a16_6 (x0 : Nat) (x1 : Int64) (x4 : Int32) : (Int32 × ZH → Option (ZH)) → Int32 × ZH → Option (ZH) := fun self s => kJ7_fill_d0a16_6 x0 x1 x4 self s.1 s.2
theorem KJ7_fill_d0a16_6 (b0 : Nat) (x0 : Nat) (x1 : Int64) (x4 : Int32) (self6 : Int32 × ZH → Option (ZH)) (hself6 : ∀ (y3 : Int32) (hh : ZH), Zr zv b0 YJ7_fill_d0a16 1 6 [(0, .ref (b0 + x0)), (1, .long x1), (4, .int x4), (3, .int y3)] [] hh (self6 (y3, hh))) (x3 : Int32) (h : ZH) : Zr zv b0 YJ7_fill_d0a16 1 6 [(0, .ref (b0 + x0)), (1, .long x1), (4, .int x4), (3, .int x3)] [] h (kJ7_fill_d0a16_6 x0 x1 x4 self6 x3 h) := by
  unfold kJ7_fill_d0a16_6
  refine z_iload_n 7 3 dJ7_fill_d0a16_6 rfl rfl ?_
  refine z_iload 9 2 dJ7_fill_d0a16_7 rfl rfl ?_
  refine z_icmp_ge 22 12 dJ7_fill_d0a16_9 (by decide) rfl (fun c1 => ?_) (fun c1 => ?_)
  · exact z_return dJ7_fill_d0a16_22 rfl
  · refine z_aload_n 13 0 dJ7_fill_d0a16_12 rfl rfl ?_
    refine z_iload_n 14 3 dJ7_fill_d0a16_13 rfl rfl ?_
    refine z_lload_n 15 1 dJ7_fill_d0a16_14 rfl rfl ?_
    refine z_lastore 16 dJ7_fill_d0a16_15 rfl (fun h2 _ => ?_)
    refine z_iinc (lv2 := [(3, .int (x3 + (nI 1))), (0, .ref (b0 + x0)), (1, .long x1), (4, .int x4)]) (nI 1) 19 3 dJ7_fill_d0a16_16 rfl rfl zki_1 (Nat.le_of_ble_eq_true rfl) rfl ?_
    refine z_goto 6 dJ7_fill_d0a16_19 (by decide) ?_
    exact z_sub [1, 2, 3, 0] rfl (hself6 (x3 + (nI 1)) h2)
theorem BJ7_fill_d0a16_6 (b0 : Nat) (x0 : Nat) (x1 : Int64) (x4 : Int32) (n : Nat) (x3 : Int32) (h : ZH) : Zr zv b0 YJ7_fill_d0a16 1 6 [(0, .ref (b0 + x0)), (1, .long x1), (4, .int x4), (3, .int x3)] [] h (zloop (lJ7_fill_d0a16_6 x0 x1 x4) n (x3, h)) :=
  zloop_Zr (fun s => [(0, .ref (b0 + x0)), (1, .long x1), (4, .int x4), (3, .int s.1)]) (fun _ => []) (fun s => s.2) (lJ7_fill_d0a16_6 x0 x1 x4) (fun self hs s => KJ7_fill_d0a16_6 b0 x0 x1 x4 self (fun y3 hh => hs (y3, hh)) s.1 s.2) n (x3, h)
def fJ7_fill_d0a16 (x0 : Nat) (x1 : Int64) (h : ZH) : Option (ZH) :=
  (zlen h x0).bind fun v1 =>
  zloop (lJ7_fill_d0a16_6 x0 x1 v1) zfu ((nI 0), h)
theorem mJ7_fill_d0a16 (b0 : Nat) (x0 : Nat) (x1 : Int64) (h : ZH) : ZM zv b0 YJ7_fill_d0a16 1 [.ref (b0 + x0), .long x1] h (fJ7_fill_d0a16 x0 x1 h) := by
  unfold fJ7_fill_d0a16
  refine ZM.of (by decide) rfl (Nat.le_of_ble_eq_true rfl) (fun _ => trivial) ?_
  refine z_sub (lv2 := [(0, .ref (b0 + x0)), (1, .long x1)]) [0, 1] rfl ?_
  refine z_iconst (nI 0) 1 zki_0 dJ7_fill_d0a16_0 rfl ?_
  refine z_istore_n (lv2 := [(3, .int (nI 0)), (0, .ref (b0 + x0)), (1, .long x1)]) 2 dJ7_fill_d0a16_1 rfl (Nat.le_of_ble_eq_true rfl) rfl ?_
  refine z_aload_n 3 1 dJ7_fill_d0a16_2 rfl rfl ?_
  refine z_alen 4 dJ7_fill_d0a16_3 rfl (fun v1 _ => ?_)
  refine z_istore (lv2 := [(4, .int v1), (3, .int (nI 0)), (0, .ref (b0 + x0)), (1, .long x1)]) 6 dJ7_fill_d0a16_4 rfl (Nat.le_of_ble_eq_true rfl) rfl ?_
  exact z_sub [2, 3, 0, 1] rfl (BJ7_fill_d0a16_6 b0 x0 x1 v1 zfu (nI 0) h)
-- X5_countEdges
def bX5_countEdges_46 (self2 : Int32 × ZH → Option (ZH)) (self10 : Int32 × ZH → Option (ZH)) (self22 : Int32 × Int32 × ZH → Option (ZH)) (x0 : Nat) (x1 : Nat) (x2 : Int32) (x3 : Int32) (x5 : Int32) (t0 : Int32) (t1 : Int32) (h : ZH) : Option (ZH) :=
  zl (t1 + t0) fun v1 =>
  self22 (v1, (x5 + (nI 1)), h)
theorem BX5_countEdges_46 (b0 : Nat) (self2 : Int32 × ZH → Option (ZH)) (self10 : Int32 × ZH → Option (ZH)) (self22 : Int32 × Int32 × ZH → Option (ZH)) (x0 : Nat) (x1 : Nat) (x2 : Int32) (x3 : Int32) (x5 : Int32) (t0 : Int32) (t1 : Int32) (h : ZH) (hself2 : ∀ (y2 : Int32) (hh : ZH), Zr zv b0 YX5_countEdges 3 2 [(0, .ref (b0 + x0)), (1, .ref (b0 + x1)), (2, .int y2)] [] hh (self2 (y2, hh))) (hself10 : ∀ (y3 : Int32) (hh : ZH), Zr zv b0 YX5_countEdges 3 10 [(0, .ref (b0 + x0)), (1, .ref (b0 + x1)), (2, .int x2), (3, .int y3)] [] hh (self10 (y3, hh))) (hself22 : ∀ (y4 : Int32) (y5 : Int32) (hh : ZH), Zr zv b0 YX5_countEdges 3 22 [(0, .ref (b0 + x0)), (1, .ref (b0 + x1)), (2, .int x2), (3, .int x3), (4, .int y4), (5, .int y5)] [] hh (self22 (y4, y5, hh))) : Zr zv b0 YX5_countEdges 3 46 [(0, .ref (b0 + x0)), (1, .ref (b0 + x1)), (2, .int x2), (3, .int x3), (5, .int x5)] [.int t0, .int t1] h (bX5_countEdges_46 self2 self10 self22 x0 x1 x2 x3 x5 t0 t1 h) := by
  unfold bX5_countEdges_46
  refine z_iadd 47 dX5_countEdges_46 rfl ?_
  refine z_letI (fun v1 _ => ?_)
  refine z_istore (lv2 := [(4, .int v1), (0, .ref (b0 + x0)), (1, .ref (b0 + x1)), (2, .int x2), (3, .int x3), (5, .int x5)]) 49 dX5_countEdges_47 rfl (Nat.le_of_ble_eq_true rfl) rfl ?_
  refine z_iinc (lv2 := [(5, .int (x5 + (nI 1))), (4, .int v1), (0, .ref (b0 + x0)), (1, .ref (b0 + x1)), (2, .int x2), (3, .int x3)]) (nI 1) 52 5 dX5_countEdges_49 rfl rfl zki_1 (Nat.le_of_ble_eq_true rfl) rfl ?_
  refine z_goto 22 dX5_countEdges_52 (by decide) ?_
  exact z_sub [2, 3, 4, 5, 1, 0] rfl (hself22 v1 (x5 + (nI 1)) h)
def kX5_countEdges_22 (self2 : Int32 × ZH → Option (ZH)) (self10 : Int32 × ZH → Option (ZH)) (x0 : Nat) (x1 : Nat) (x2 : Int32) (x3 : Int32) (self22 : Int32 × Int32 × ZH → Option (ZH)) (x4 : Int32) (x5 : Int32) (h : ZH) : Option (ZH) :=
  if (nI 4) ≤ x5 then ((gR h 5 x0 0).bind fun v2 =>
  (sJ h v2 (((nI 8) * x2) + x3) (x4.toInt64)).bind fun h3 =>
  self10 ((x3 + (nI 1)), h3)) else
  ((fX1_has x1 x2 x5 x3 h).bind fun q4 =>
  if q4.1 = 0 then (bX5_countEdges_46 self2 self10 self22 x0 x1 x2 x3 x5 (nI 0) x4 q4.2) else
  (bX5_countEdges_46 self2 self10 self22 x0 x1 x2 x3 x5 (nI 1) x4 q4.2))
def lX5_countEdges_22 (self2 : Int32 × ZH → Option (ZH)) (self10 : Int32 × ZH → Option (ZH)) (x0 : Nat) (x1 : Nat) (x2 : Int32) (x3 : Int32) : (Int32 × Int32 × ZH → Option (ZH)) → Int32 × Int32 × ZH → Option (ZH) := fun self s => kX5_countEdges_22 self2 self10 x0 x1 x2 x3 self s.1 s.2.1 s.2.2
theorem KX5_countEdges_22 (b0 : Nat) (self2 : Int32 × ZH → Option (ZH)) (self10 : Int32 × ZH → Option (ZH)) (x0 : Nat) (x1 : Nat) (x2 : Int32) (x3 : Int32) (hself2 : ∀ (y2 : Int32) (hh : ZH), Zr zv b0 YX5_countEdges 3 2 [(0, .ref (b0 + x0)), (1, .ref (b0 + x1)), (2, .int y2)] [] hh (self2 (y2, hh))) (hself10 : ∀ (y3 : Int32) (hh : ZH), Zr zv b0 YX5_countEdges 3 10 [(0, .ref (b0 + x0)), (1, .ref (b0 + x1)), (2, .int x2), (3, .int y3)] [] hh (self10 (y3, hh))) (self22 : Int32 × Int32 × ZH → Option (ZH)) (hself22 : ∀ (y4 : Int32) (y5 : Int32) (hh : ZH), Zr zv b0 YX5_countEdges 3 22 [(0, .ref (b0 + x0)), (1, .ref (b0 + x1)), (2, .int x2), (3, .int x3), (4, .int y4), (5, .int y5)] [] hh (self22 (y4, y5, hh))) (x4 : Int32) (x5 : Int32) (h : ZH) : Zr zv b0 YX5_countEdges 3 22 [(0, .ref (b0 + x0)), (1, .ref (b0 + x1)), (2, .int x2), (3, .int x3), (4, .int x4), (5, .int x5)] [] h (kX5_countEdges_22 self2 self10 x0 x1 x2 x3 self22 x4 x5 h) := by
  unfold kX5_countEdges_22
  refine z_iload 24 5 dX5_countEdges_22 rfl rfl ?_
  refine z_iconst (nI 4) 25 zki_4 dX5_countEdges_24 rfl ?_
  refine z_icmp_ge 55 28 dX5_countEdges_25 (by decide) rfl (fun c1 => ?_) (fun c1 => ?_)
  · refine z_aload_n 56 0 dX5_countEdges_55 rfl rfl ?_
    refine z_getR 59 zC5 (Nat.le_of_ble_eq_true rfl) rfl w_206 dX5_countEdges_56 rfl (fun v2 _ => ?_)
    refine z_bipush (nI 8) 61 zkb_8 dX5_countEdges_59 rfl ?_
    refine z_iload_n 62 2 dX5_countEdges_61 rfl rfl ?_
    refine z_imul 63 dX5_countEdges_62 rfl ?_
    refine z_iload_n 64 3 dX5_countEdges_63 rfl rfl ?_
    refine z_iadd 65 dX5_countEdges_64 rfl ?_
    refine z_iload 67 4 dX5_countEdges_65 rfl rfl ?_
    refine z_i2l 68 dX5_countEdges_67 rfl ?_
    refine z_lastore 69 dX5_countEdges_68 rfl (fun h3 _ => ?_)
    refine z_iinc (lv2 := [(3, .int (x3 + (nI 1))), (0, .ref (b0 + x0)), (1, .ref (b0 + x1)), (2, .int x2), (4, .int x4), (5, .int x5)]) (nI 1) 72 3 dX5_countEdges_69 rfl rfl zki_1 (Nat.le_of_ble_eq_true rfl) rfl ?_
    refine z_goto 10 dX5_countEdges_72 (by decide) ?_
    exact z_sub [1, 2, 3, 0] rfl (hself10 (x3 + (nI 1)) h3)
  · refine z_iload 30 4 dX5_countEdges_28 rfl rfl ?_
    refine z_aload_n 31 1 dX5_countEdges_30 rfl rfl ?_
    refine z_iload_n 32 2 dX5_countEdges_31 rfl rfl ?_
    refine z_iload 34 5 dX5_countEdges_32 rfl rfl ?_
    refine z_iload_n 35 3 dX5_countEdges_34 rfl rfl ?_
    refine z_callVi 38 (mX1_has b0 x1 x2 x5 x3 h) zyX1_has rfl w_614 (ci := 1) rfl (Nat.le_of_ble_eq_true rfl) (fun _ e9 => kX1_has e9) wm_yX1_has ws_yX1_has (Nat.le_of_ble_eq_true rfl) rfl (Nat.le_of_ble_eq_true rfl) dX5_countEdges_35 rfl (fun q4 => ?_)
    refine z_if_eq 45 41 dX5_countEdges_38 (by decide) rfl (fun c5 => ?_) (fun c5 => ?_)
    · refine z_iconst (nI 0) 46 zki_0 dX5_countEdges_45 rfl ?_
      exact z_sub [0, 1, 2, 3, 5] rfl (BX5_countEdges_46 b0 self2 self10 self22 x0 x1 x2 x3 x5 (nI 0) x4 q4.2 hself2 hself10 hself22)
    · refine z_iconst (nI 1) 42 zki_1 dX5_countEdges_41 rfl ?_
      refine z_goto 46 dX5_countEdges_42 (by decide) ?_
      exact z_sub [0, 1, 2, 3, 5] rfl (BX5_countEdges_46 b0 self2 self10 self22 x0 x1 x2 x3 x5 (nI 1) x4 q4.2 hself2 hself10 hself22)
theorem BX5_countEdges_22 (b0 : Nat) (self2 : Int32 × ZH → Option (ZH)) (self10 : Int32 × ZH → Option (ZH)) (x0 : Nat) (x1 : Nat) (x2 : Int32) (x3 : Int32) (hself2 : ∀ (y2 : Int32) (hh : ZH), Zr zv b0 YX5_countEdges 3 2 [(0, .ref (b0 + x0)), (1, .ref (b0 + x1)), (2, .int y2)] [] hh (self2 (y2, hh))) (hself10 : ∀ (y3 : Int32) (hh : ZH), Zr zv b0 YX5_countEdges 3 10 [(0, .ref (b0 + x0)), (1, .ref (b0 + x1)), (2, .int x2), (3, .int y3)] [] hh (self10 (y3, hh))) (n : Nat) (x4 : Int32) (x5 : Int32) (h : ZH) : Zr zv b0 YX5_countEdges 3 22 [(0, .ref (b0 + x0)), (1, .ref (b0 + x1)), (2, .int x2), (3, .int x3), (4, .int x4), (5, .int x5)] [] h (zloop (lX5_countEdges_22 self2 self10 x0 x1 x2 x3) n (x4, x5, h)) :=
  zloop_Zr (fun s => [(0, .ref (b0 + x0)), (1, .ref (b0 + x1)), (2, .int x2), (3, .int x3), (4, .int s.1), (5, .int s.2.1)]) (fun _ => []) (fun s => s.2.2) (lX5_countEdges_22 self2 self10 x0 x1 x2 x3) (fun self hs s => KX5_countEdges_22 b0 self2 self10 x0 x1 x2 x3 hself2 hself10 self (fun y4 y5 hh => hs (y4, y5, hh)) s.1 s.2.1 s.2.2) n (x4, x5, h)
def kX5_countEdges_10 (self2 : Int32 × ZH → Option (ZH)) (x0 : Nat) (x1 : Nat) (x2 : Int32) (self10 : Int32 × ZH → Option (ZH)) (x3 : Int32) (h : ZH) : Option (ZH) :=
  if (nI 8) ≤ x3 then (self2 ((x2 + (nI 1)), h)) else
  (zloop (lX5_countEdges_22 self2 self10 x0 x1 x2 x3) zfu ((nI 0), (nI 0), h))
def lX5_countEdges_10 (self2 : Int32 × ZH → Option (ZH)) (x0 : Nat) (x1 : Nat) (x2 : Int32) : (Int32 × ZH → Option (ZH)) → Int32 × ZH → Option (ZH) := fun self s => kX5_countEdges_10 self2 x0 x1 x2 self s.1 s.2
theorem KX5_countEdges_10 (b0 : Nat) (self2 : Int32 × ZH → Option (ZH)) (x0 : Nat) (x1 : Nat) (x2 : Int32) (hself2 : ∀ (y2 : Int32) (hh : ZH), Zr zv b0 YX5_countEdges 3 2 [(0, .ref (b0 + x0)), (1, .ref (b0 + x1)), (2, .int y2)] [] hh (self2 (y2, hh))) (self10 : Int32 × ZH → Option (ZH)) (hself10 : ∀ (y3 : Int32) (hh : ZH), Zr zv b0 YX5_countEdges 3 10 [(0, .ref (b0 + x0)), (1, .ref (b0 + x1)), (2, .int x2), (3, .int y3)] [] hh (self10 (y3, hh))) (x3 : Int32) (h : ZH) : Zr zv b0 YX5_countEdges 3 10 [(0, .ref (b0 + x0)), (1, .ref (b0 + x1)), (2, .int x2), (3, .int x3)] [] h (kX5_countEdges_10 self2 x0 x1 x2 self10 x3 h) := by
  unfold kX5_countEdges_10
  refine z_iload_n 11 3 dX5_countEdges_10 rfl rfl ?_
  refine z_bipush (nI 8) 13 zkb_8 dX5_countEdges_11 rfl ?_
  refine z_icmp_ge 75 16 dX5_countEdges_13 (by decide) rfl (fun c1 => ?_) (fun c1 => ?_)
  · refine z_iinc (lv2 := [(2, .int (x2 + (nI 1))), (0, .ref (b0 + x0)), (1, .ref (b0 + x1)), (3, .int x3)]) (nI 1) 78 2 dX5_countEdges_75 rfl rfl zki_1 (Nat.le_of_ble_eq_true rfl) rfl ?_
    refine z_goto 2 dX5_countEdges_78 (by decide) ?_
    exact z_sub [1, 2, 0] rfl (hself2 (x2 + (nI 1)) h)
  · refine z_iconst (nI 0) 17 zki_0 dX5_countEdges_16 rfl ?_
    refine z_istore (lv2 := [(4, .int (nI 0)), (0, .ref (b0 + x0)), (1, .ref (b0 + x1)), (2, .int x2), (3, .int x3)]) 19 dX5_countEdges_17 rfl (Nat.le_of_ble_eq_true rfl) rfl ?_
    refine z_iconst (nI 0) 20 zki_0 dX5_countEdges_19 rfl ?_
    refine z_istore (lv2 := [(5, .int (nI 0)), (4, .int (nI 0)), (0, .ref (b0 + x0)), (1, .ref (b0 + x1)), (2, .int x2), (3, .int x3)]) 22 dX5_countEdges_20 rfl (Nat.le_of_ble_eq_true rfl) rfl ?_
    exact z_sub [2, 3, 4, 5, 1, 0] rfl (BX5_countEdges_22 b0 self2 self10 x0 x1 x2 x3 hself2 hself10 zfu (nI 0) (nI 0) h)
theorem BX5_countEdges_10 (b0 : Nat) (self2 : Int32 × ZH → Option (ZH)) (x0 : Nat) (x1 : Nat) (x2 : Int32) (hself2 : ∀ (y2 : Int32) (hh : ZH), Zr zv b0 YX5_countEdges 3 2 [(0, .ref (b0 + x0)), (1, .ref (b0 + x1)), (2, .int y2)] [] hh (self2 (y2, hh))) (n : Nat) (x3 : Int32) (h : ZH) : Zr zv b0 YX5_countEdges 3 10 [(0, .ref (b0 + x0)), (1, .ref (b0 + x1)), (2, .int x2), (3, .int x3)] [] h (zloop (lX5_countEdges_10 self2 x0 x1 x2) n (x3, h)) :=
  zloop_Zr (fun s => [(0, .ref (b0 + x0)), (1, .ref (b0 + x1)), (2, .int x2), (3, .int s.1)]) (fun _ => []) (fun s => s.2) (lX5_countEdges_10 self2 x0 x1 x2) (fun self hs s => KX5_countEdges_10 b0 self2 x0 x1 x2 hself2 self (fun y3 hh => hs (y3, hh)) s.1 s.2) n (x3, h)
def kX5_countEdges_2 (x0 : Nat) (x1 : Nat) (self2 : Int32 × ZH → Option (ZH)) (x2 : Int32) (h : ZH) : Option (ZH) :=
  if (nI 8) ≤ x2 then (some h) else
  (zloop (lX5_countEdges_10 self2 x0 x1 x2) zfu ((nI 0), h))
def lX5_countEdges_2 (x0 : Nat) (x1 : Nat) : (Int32 × ZH → Option (ZH)) → Int32 × ZH → Option (ZH) := fun self s => kX5_countEdges_2 x0 x1 self s.1 s.2
theorem KX5_countEdges_2 (b0 : Nat) (x0 : Nat) (x1 : Nat) (self2 : Int32 × ZH → Option (ZH)) (hself2 : ∀ (y2 : Int32) (hh : ZH), Zr zv b0 YX5_countEdges 3 2 [(0, .ref (b0 + x0)), (1, .ref (b0 + x1)), (2, .int y2)] [] hh (self2 (y2, hh))) (x2 : Int32) (h : ZH) : Zr zv b0 YX5_countEdges 3 2 [(0, .ref (b0 + x0)), (1, .ref (b0 + x1)), (2, .int x2)] [] h (kX5_countEdges_2 x0 x1 self2 x2 h) := by
  unfold kX5_countEdges_2
  refine z_iload_n 3 2 dX5_countEdges_2 rfl rfl ?_
  refine z_bipush (nI 8) 5 zkb_8 dX5_countEdges_3 rfl ?_
  refine z_icmp_ge 81 8 dX5_countEdges_5 (by decide) rfl (fun c1 => ?_) (fun c1 => ?_)
  · exact z_return dX5_countEdges_81 rfl
  · refine z_iconst (nI 0) 9 zki_0 dX5_countEdges_8 rfl ?_
    refine z_istore_n (lv2 := [(3, .int (nI 0)), (0, .ref (b0 + x0)), (1, .ref (b0 + x1)), (2, .int x2)]) 10 dX5_countEdges_9 rfl (Nat.le_of_ble_eq_true rfl) rfl ?_
    exact z_sub [1, 2, 3, 0] rfl (BX5_countEdges_10 b0 self2 x0 x1 x2 hself2 zfu (nI 0) h)
theorem BX5_countEdges_2 (b0 : Nat) (x0 : Nat) (x1 : Nat) (n : Nat) (x2 : Int32) (h : ZH) : Zr zv b0 YX5_countEdges 3 2 [(0, .ref (b0 + x0)), (1, .ref (b0 + x1)), (2, .int x2)] [] h (zloop (lX5_countEdges_2 x0 x1) n (x2, h)) :=
  zloop_Zr (fun s => [(0, .ref (b0 + x0)), (1, .ref (b0 + x1)), (2, .int s.1)]) (fun _ => []) (fun s => s.2) (lX5_countEdges_2 x0 x1) (fun self hs s => KX5_countEdges_2 b0 x0 x1 self (fun y2 hh => hs (y2, hh)) s.1 s.2) n (x2, h)
def fX5_countEdges (x0 : Nat) (x1 : Nat) (h : ZH) : Option (ZH) :=
  if x0 < zn h ∧ zK h x0 = 5 then (zloop (lX5_countEdges_2 x0 x1) zfu ((nI 0), h)) else none
theorem kX5_countEdges {x0 : Nat} {x1 : Nat} {h : ZH} {x : ZH} (e : fX5_countEdges x0 x1 h = some x) : x0 < zn h ∧ zK h x0 = 5 := by
  unfold fX5_countEdges at e
  exact zguard e
theorem mX5_countEdges (b0 : Nat) (x0 : Nat) (x1 : Nat) (h : ZH) : ZM zv b0 YX5_countEdges 3 [.ref (b0 + x0), .ref (b0 + x1)] h (fX5_countEdges x0 x1 h) := by
  unfold fX5_countEdges
  refine ZM.of (by decide) rfl (Nat.le_of_ble_eq_true rfl) (fun _ => trivial) ?_
  refine z_sub (lv2 := [(0, .ref (b0 + x0)), (1, .ref (b0 + x1))]) [0, 1] rfl ?_
  refine z_guard (fun _ => ?_)
  refine z_iconst (nI 0) 1 zki_0 dX5_countEdges_0 rfl ?_
  refine z_istore_n (lv2 := [(2, .int (nI 0)), (0, .ref (b0 + x0)), (1, .ref (b0 + x1))]) 2 dX5_countEdges_1 rfl (Nat.le_of_ble_eq_true rfl) rfl ?_
  exact z_sub [1, 2, 0] rfl (BX5_countEdges_2 b0 x0 x1 zfu (nI 0) h)
-- X5_multiply
def kX5_multiply_21 (self2 : Int32 × ZH → Option (ZH)) (self10 : Int32 × ZH → Option (ZH)) (x0 : Nat) (x1 : Int32) (x2 : Int32) (self21 : Int64 × Int32 × ZH → Option (ZH)) (x3 : Int64) (x5 : Int32) (h : ZH) : Option (ZH) :=
  if (nI 8) ≤ x5 then ((gR h 5 x0 2).bind fun v2 =>
  (sJ h v2 (((nI 8) * x1) + x2) x3).bind fun h3 =>
  self10 ((x2 + (nI 1)), h3)) else
  ((gR h 5 x0 0).bind fun v4 =>
  (lJ h v4 (((nI 8) * x1) + x5)).bind fun v5 =>
  (gR h 5 x0 1).bind fun v6 =>
  (lJ h v6 (((nI 8) * x5) + x2)).bind fun v7 =>
  zl (x3 + (v5 * v7)) fun v8 =>
  self21 (v8, (x5 + (nI 1)), h))
def lX5_multiply_21 (self2 : Int32 × ZH → Option (ZH)) (self10 : Int32 × ZH → Option (ZH)) (x0 : Nat) (x1 : Int32) (x2 : Int32) : (Int64 × Int32 × ZH → Option (ZH)) → Int64 × Int32 × ZH → Option (ZH) := fun self s => kX5_multiply_21 self2 self10 x0 x1 x2 self s.1 s.2.1 s.2.2
theorem KX5_multiply_21 (b0 : Nat) (self2 : Int32 × ZH → Option (ZH)) (self10 : Int32 × ZH → Option (ZH)) (x0 : Nat) (x1 : Int32) (x2 : Int32) (hself2 : ∀ (y1 : Int32) (hh : ZH), Zr zv b0 YX5_multiply 1 2 [(0, .ref (b0 + x0)), (1, .int y1)] [] hh (self2 (y1, hh))) (hself10 : ∀ (y2 : Int32) (hh : ZH), Zr zv b0 YX5_multiply 1 10 [(0, .ref (b0 + x0)), (1, .int x1), (2, .int y2)] [] hh (self10 (y2, hh))) (self21 : Int64 × Int32 × ZH → Option (ZH)) (hself21 : ∀ (y3 : Int64) (y5 : Int32) (hh : ZH), Zr zv b0 YX5_multiply 1 21 [(0, .ref (b0 + x0)), (1, .int x1), (2, .int x2), (3, .long y3), (5, .int y5)] [] hh (self21 (y3, y5, hh))) (x3 : Int64) (x5 : Int32) (h : ZH) : Zr zv b0 YX5_multiply 1 21 [(0, .ref (b0 + x0)), (1, .int x1), (2, .int x2), (3, .long x3), (5, .int x5)] [] h (kX5_multiply_21 self2 self10 x0 x1 x2 self21 x3 x5 h) := by
  unfold kX5_multiply_21
  refine z_iload 23 4 dX5_multiply_21 rfl rfl ?_
  refine z_bipush (nI 8) 25 zkb_8 dX5_multiply_23 rfl ?_
  refine z_icmp_ge 62 28 dX5_multiply_25 (by decide) rfl (fun c1 => ?_) (fun c1 => ?_)
  · refine z_aload_n 63 0 dX5_multiply_62 rfl rfl ?_
    refine z_getR 66 zC5 (Nat.le_of_ble_eq_true rfl) rfl w_208 dX5_multiply_63 rfl (fun v2 _ => ?_)
    refine z_bipush (nI 8) 68 zkb_8 dX5_multiply_66 rfl ?_
    refine z_iload_n 69 1 dX5_multiply_68 rfl rfl ?_
    refine z_imul 70 dX5_multiply_69 rfl ?_
    refine z_iload_n 71 2 dX5_multiply_70 rfl rfl ?_
    refine z_iadd 72 dX5_multiply_71 rfl ?_
    refine z_lload_n 73 3 dX5_multiply_72 rfl rfl ?_
    refine z_lastore 74 dX5_multiply_73 rfl (fun h3 _ => ?_)
    refine z_iinc (lv2 := [(2, .int (x2 + (nI 1))), (0, .ref (b0 + x0)), (1, .int x1), (3, .long x3), (5, .int x5)]) (nI 1) 77 2 dX5_multiply_74 rfl rfl zki_1 (Nat.le_of_ble_eq_true rfl) rfl ?_
    refine z_goto 10 dX5_multiply_77 (by decide) ?_
    exact z_sub [1, 2, 0] rfl (hself10 (x2 + (nI 1)) h3)
  · refine z_lload_n 29 3 dX5_multiply_28 rfl rfl ?_
    refine z_aload_n 30 0 dX5_multiply_29 rfl rfl ?_
    refine z_getR 33 zC5 (Nat.le_of_ble_eq_true rfl) rfl w_206 dX5_multiply_30 rfl (fun v4 _ => ?_)
    refine z_bipush (nI 8) 35 zkb_8 dX5_multiply_33 rfl ?_
    refine z_iload_n 36 1 dX5_multiply_35 rfl rfl ?_
    refine z_imul 37 dX5_multiply_36 rfl ?_
    refine z_iload 39 4 dX5_multiply_37 rfl rfl ?_
    refine z_iadd 40 dX5_multiply_39 rfl ?_
    refine z_laload 41 dX5_multiply_40 rfl (fun v5 _ => ?_)
    refine z_aload_n 42 0 dX5_multiply_41 rfl rfl ?_
    refine z_getR 45 zC5 (Nat.le_of_ble_eq_true rfl) rfl w_207 dX5_multiply_42 rfl (fun v6 _ => ?_)
    refine z_bipush (nI 8) 47 zkb_8 dX5_multiply_45 rfl ?_
    refine z_iload 49 4 dX5_multiply_47 rfl rfl ?_
    refine z_imul 50 dX5_multiply_49 rfl ?_
    refine z_iload_n 51 2 dX5_multiply_50 rfl rfl ?_
    refine z_iadd 52 dX5_multiply_51 rfl ?_
    refine z_laload 53 dX5_multiply_52 rfl (fun v7 _ => ?_)
    refine z_lmul 54 dX5_multiply_53 rfl ?_
    refine z_ladd 55 dX5_multiply_54 rfl ?_
    refine z_letJ (fun v8 _ => ?_)
    refine z_lstore_n (lv2 := [(3, .long v8), (0, .ref (b0 + x0)), (1, .int x1), (2, .int x2), (5, .int x5)]) 56 dX5_multiply_55 rfl (Nat.le_of_ble_eq_true rfl) rfl ?_
    refine z_iinc (lv2 := [(5, .int (x5 + (nI 1))), (3, .long v8), (0, .ref (b0 + x0)), (1, .int x1), (2, .int x2)]) (nI 1) 59 4 dX5_multiply_56 rfl rfl zki_1 (Nat.le_of_ble_eq_true rfl) rfl ?_
    refine z_goto 21 dX5_multiply_59 (by decide) ?_
    exact z_sub [2, 3, 4, 1, 0] rfl (hself21 v8 (x5 + (nI 1)) h)
theorem BX5_multiply_21 (b0 : Nat) (self2 : Int32 × ZH → Option (ZH)) (self10 : Int32 × ZH → Option (ZH)) (x0 : Nat) (x1 : Int32) (x2 : Int32) (hself2 : ∀ (y1 : Int32) (hh : ZH), Zr zv b0 YX5_multiply 1 2 [(0, .ref (b0 + x0)), (1, .int y1)] [] hh (self2 (y1, hh))) (hself10 : ∀ (y2 : Int32) (hh : ZH), Zr zv b0 YX5_multiply 1 10 [(0, .ref (b0 + x0)), (1, .int x1), (2, .int y2)] [] hh (self10 (y2, hh))) (n : Nat) (x3 : Int64) (x5 : Int32) (h : ZH) : Zr zv b0 YX5_multiply 1 21 [(0, .ref (b0 + x0)), (1, .int x1), (2, .int x2), (3, .long x3), (5, .int x5)] [] h (zloop (lX5_multiply_21 self2 self10 x0 x1 x2) n (x3, x5, h)) :=
  zloop_Zr (fun s => [(0, .ref (b0 + x0)), (1, .int x1), (2, .int x2), (3, .long s.1), (5, .int s.2.1)]) (fun _ => []) (fun s => s.2.2) (lX5_multiply_21 self2 self10 x0 x1 x2) (fun self hs s => KX5_multiply_21 b0 self2 self10 x0 x1 x2 hself2 hself10 self (fun y3 y5 hh => hs (y3, y5, hh)) s.1 s.2.1 s.2.2) n (x3, x5, h)
def kX5_multiply_10 (self2 : Int32 × ZH → Option (ZH)) (x0 : Nat) (x1 : Int32) (self10 : Int32 × ZH → Option (ZH)) (x2 : Int32) (h : ZH) : Option (ZH) :=
  if (nI 8) ≤ x2 then (self2 ((x1 + (nI 1)), h)) else
  (zloop (lX5_multiply_21 self2 self10 x0 x1 x2) zfu ((lN 0), (nI 0), h))
def lX5_multiply_10 (self2 : Int32 × ZH → Option (ZH)) (x0 : Nat) (x1 : Int32) : (Int32 × ZH → Option (ZH)) → Int32 × ZH → Option (ZH) := fun self s => kX5_multiply_10 self2 x0 x1 self s.1 s.2
theorem KX5_multiply_10 (b0 : Nat) (self2 : Int32 × ZH → Option (ZH)) (x0 : Nat) (x1 : Int32) (hself2 : ∀ (y1 : Int32) (hh : ZH), Zr zv b0 YX5_multiply 1 2 [(0, .ref (b0 + x0)), (1, .int y1)] [] hh (self2 (y1, hh))) (self10 : Int32 × ZH → Option (ZH)) (hself10 : ∀ (y2 : Int32) (hh : ZH), Zr zv b0 YX5_multiply 1 10 [(0, .ref (b0 + x0)), (1, .int x1), (2, .int y2)] [] hh (self10 (y2, hh))) (x2 : Int32) (h : ZH) : Zr zv b0 YX5_multiply 1 10 [(0, .ref (b0 + x0)), (1, .int x1), (2, .int x2)] [] h (kX5_multiply_10 self2 x0 x1 self10 x2 h) := by
  unfold kX5_multiply_10
  refine z_iload_n 11 2 dX5_multiply_10 rfl rfl ?_
  refine z_bipush (nI 8) 13 zkb_8 dX5_multiply_11 rfl ?_
  refine z_icmp_ge 80 16 dX5_multiply_13 (by decide) rfl (fun c1 => ?_) (fun c1 => ?_)
  · refine z_iinc (lv2 := [(1, .int (x1 + (nI 1))), (0, .ref (b0 + x0)), (2, .int x2)]) (nI 1) 83 1 dX5_multiply_80 rfl rfl zki_1 (Nat.le_of_ble_eq_true rfl) rfl ?_
    refine z_goto 2 dX5_multiply_83 (by decide) ?_
    exact z_sub [1, 0] rfl (hself2 (x1 + (nI 1)) h)
  · refine z_lconst (lN 0) 17 rfl dX5_multiply_16 rfl ?_
    refine z_lstore_n (lv2 := [(3, .long (lN 0)), (0, .ref (b0 + x0)), (1, .int x1), (2, .int x2)]) 18 dX5_multiply_17 rfl (Nat.le_of_ble_eq_true rfl) rfl ?_
    refine z_iconst (nI 0) 19 zki_0 dX5_multiply_18 rfl ?_
    refine z_istore (lv2 := [(5, .int (nI 0)), (3, .long (lN 0)), (0, .ref (b0 + x0)), (1, .int x1), (2, .int x2)]) 21 dX5_multiply_19 rfl (Nat.le_of_ble_eq_true rfl) rfl ?_
    exact z_sub [2, 3, 4, 1, 0] rfl (BX5_multiply_21 b0 self2 self10 x0 x1 x2 hself2 hself10 zfu (lN 0) (nI 0) h)
theorem BX5_multiply_10 (b0 : Nat) (self2 : Int32 × ZH → Option (ZH)) (x0 : Nat) (x1 : Int32) (hself2 : ∀ (y1 : Int32) (hh : ZH), Zr zv b0 YX5_multiply 1 2 [(0, .ref (b0 + x0)), (1, .int y1)] [] hh (self2 (y1, hh))) (n : Nat) (x2 : Int32) (h : ZH) : Zr zv b0 YX5_multiply 1 10 [(0, .ref (b0 + x0)), (1, .int x1), (2, .int x2)] [] h (zloop (lX5_multiply_10 self2 x0 x1) n (x2, h)) :=
  zloop_Zr (fun s => [(0, .ref (b0 + x0)), (1, .int x1), (2, .int s.1)]) (fun _ => []) (fun s => s.2) (lX5_multiply_10 self2 x0 x1) (fun self hs s => KX5_multiply_10 b0 self2 x0 x1 hself2 self (fun y2 hh => hs (y2, hh)) s.1 s.2) n (x2, h)
def kX5_multiply_2 (x0 : Nat) (self2 : Int32 × ZH → Option (ZH)) (x1 : Int32) (h : ZH) : Option (ZH) :=
  if (nI 8) ≤ x1 then (some h) else
  (zloop (lX5_multiply_10 self2 x0 x1) zfu ((nI 0), h))
def lX5_multiply_2 (x0 : Nat) : (Int32 × ZH → Option (ZH)) → Int32 × ZH → Option (ZH) := fun self s => kX5_multiply_2 x0 self s.1 s.2
theorem KX5_multiply_2 (b0 : Nat) (x0 : Nat) (self2 : Int32 × ZH → Option (ZH)) (hself2 : ∀ (y1 : Int32) (hh : ZH), Zr zv b0 YX5_multiply 1 2 [(0, .ref (b0 + x0)), (1, .int y1)] [] hh (self2 (y1, hh))) (x1 : Int32) (h : ZH) : Zr zv b0 YX5_multiply 1 2 [(0, .ref (b0 + x0)), (1, .int x1)] [] h (kX5_multiply_2 x0 self2 x1 h) := by
  unfold kX5_multiply_2
  refine z_iload_n 3 1 dX5_multiply_2 rfl rfl ?_
  refine z_bipush (nI 8) 5 zkb_8 dX5_multiply_3 rfl ?_
  refine z_icmp_ge 86 8 dX5_multiply_5 (by decide) rfl (fun c1 => ?_) (fun c1 => ?_)
  · exact z_return dX5_multiply_86 rfl
  · refine z_iconst (nI 0) 9 zki_0 dX5_multiply_8 rfl ?_
    refine z_istore_n (lv2 := [(2, .int (nI 0)), (0, .ref (b0 + x0)), (1, .int x1)]) 10 dX5_multiply_9 rfl (Nat.le_of_ble_eq_true rfl) rfl ?_
    exact z_sub [1, 2, 0] rfl (BX5_multiply_10 b0 self2 x0 x1 hself2 zfu (nI 0) h)
theorem BX5_multiply_2 (b0 : Nat) (x0 : Nat) (n : Nat) (x1 : Int32) (h : ZH) : Zr zv b0 YX5_multiply 1 2 [(0, .ref (b0 + x0)), (1, .int x1)] [] h (zloop (lX5_multiply_2 x0) n (x1, h)) :=
  zloop_Zr (fun s => [(0, .ref (b0 + x0)), (1, .int s.1)]) (fun _ => []) (fun s => s.2) (lX5_multiply_2 x0) (fun self hs s => KX5_multiply_2 b0 x0 self (fun y1 hh => hs (y1, hh)) s.1 s.2) n (x1, h)
def fX5_multiply (x0 : Nat) (h : ZH) : Option (ZH) :=
  if x0 < zn h ∧ zK h x0 = 5 then (zloop (lX5_multiply_2 x0) zfu ((nI 0), h)) else none
theorem kX5_multiply {x0 : Nat} {h : ZH} {x : ZH} (e : fX5_multiply x0 h = some x) : x0 < zn h ∧ zK h x0 = 5 := by
  unfold fX5_multiply at e
  exact zguard e
theorem mX5_multiply (b0 : Nat) (x0 : Nat) (h : ZH) : ZM zv b0 YX5_multiply 1 [.ref (b0 + x0)] h (fX5_multiply x0 h) := by
  unfold fX5_multiply
  refine ZM.of (by decide) rfl (Nat.le_of_ble_eq_true rfl) (fun _ => trivial) ?_
  refine z_sub (lv2 := [(0, .ref (b0 + x0))]) [0] rfl ?_
  refine z_guard (fun _ => ?_)
  refine z_iconst (nI 0) 1 zki_0 dX5_multiply_0 rfl ?_
  refine z_istore_n (lv2 := [(1, .int (nI 0)), (0, .ref (b0 + x0))]) 2 dX5_multiply_1 rfl (Nat.le_of_ble_eq_true rfl) rfl ?_
  exact z_sub [1, 0] rfl (BX5_multiply_2 b0 x0 zfu (nI 0) h)
-- X5_trace
def kX5_trace_4 (x0 : Nat) (self4 : Int64 × Int32 × ZH → Option (Int64 × ZH)) (x1 : Int64) (x3 : Int32) (h : ZH) : Option (Int64 × ZH) :=
  if (nI 8) ≤ x3 then (some (x1, h)) else
  ((gR h 5 x0 2).bind fun v2 =>
  (lJ h v2 (((nI 8) * x3) + x3)).bind fun v3 =>
  zl (x1 + v3) fun v4 =>
  self4 (v4, (x3 + (nI 1)), h))
def lX5_trace_4 (x0 : Nat) : (Int64 × Int32 × ZH → Option (Int64 × ZH)) → Int64 × Int32 × ZH → Option (Int64 × ZH) := fun self s => kX5_trace_4 x0 self s.1 s.2.1 s.2.2
theorem KX5_trace_4 (b0 : Nat) (x0 : Nat) (self4 : Int64 × Int32 × ZH → Option (Int64 × ZH)) (hself4 : ∀ (y1 : Int64) (y3 : Int32) (hh : ZH), Zr zj b0 YX5_trace 1 4 [(0, .ref (b0 + x0)), (1, .long y1), (3, .int y3)] [] hh (self4 (y1, y3, hh))) (x1 : Int64) (x3 : Int32) (h : ZH) : Zr zj b0 YX5_trace 1 4 [(0, .ref (b0 + x0)), (1, .long x1), (3, .int x3)] [] h (kX5_trace_4 x0 self4 x1 x3 h) := by
  unfold kX5_trace_4
  refine z_iload_n 5 2 dX5_trace_4 rfl rfl ?_
  refine z_bipush (nI 8) 7 zkb_8 dX5_trace_5 rfl ?_
  refine z_icmp_ge 30 10 dX5_trace_7 (by decide) rfl (fun c1 => ?_) (fun c1 => ?_)
  · refine z_lload_n 31 1 dX5_trace_30 rfl rfl ?_
    exact z_lreturn dX5_trace_31 rfl
  · refine z_lload_n 11 1 dX5_trace_10 rfl rfl ?_
    refine z_aload_n 12 0 dX5_trace_11 rfl rfl ?_
    refine z_getR 15 zC5 (Nat.le_of_ble_eq_true rfl) rfl w_208 dX5_trace_12 rfl (fun v2 _ => ?_)
    refine z_bipush (nI 8) 17 zkb_8 dX5_trace_15 rfl ?_
    refine z_iload_n 18 2 dX5_trace_17 rfl rfl ?_
    refine z_imul 19 dX5_trace_18 rfl ?_
    refine z_iload_n 20 2 dX5_trace_19 rfl rfl ?_
    refine z_iadd 21 dX5_trace_20 rfl ?_
    refine z_laload 22 dX5_trace_21 rfl (fun v3 _ => ?_)
    refine z_ladd 23 dX5_trace_22 rfl ?_
    refine z_letJ (fun v4 _ => ?_)
    refine z_lstore_n (lv2 := [(1, .long v4), (0, .ref (b0 + x0)), (3, .int x3)]) 24 dX5_trace_23 rfl (Nat.le_of_ble_eq_true rfl) rfl ?_
    refine z_iinc (lv2 := [(3, .int (x3 + (nI 1))), (1, .long v4), (0, .ref (b0 + x0))]) (nI 1) 27 2 dX5_trace_24 rfl rfl zki_1 (Nat.le_of_ble_eq_true rfl) rfl ?_
    refine z_goto 4 dX5_trace_27 (by decide) ?_
    exact z_sub [2, 1, 0] rfl (hself4 v4 (x3 + (nI 1)) h)
theorem BX5_trace_4 (b0 : Nat) (x0 : Nat) (n : Nat) (x1 : Int64) (x3 : Int32) (h : ZH) : Zr zj b0 YX5_trace 1 4 [(0, .ref (b0 + x0)), (1, .long x1), (3, .int x3)] [] h (zloop (lX5_trace_4 x0) n (x1, x3, h)) :=
  zloop_Zr (fun s => [(0, .ref (b0 + x0)), (1, .long s.1), (3, .int s.2.1)]) (fun _ => []) (fun s => s.2.2) (lX5_trace_4 x0) (fun self hs s => KX5_trace_4 b0 x0 self (fun y1 y3 hh => hs (y1, y3, hh)) s.1 s.2.1 s.2.2) n (x1, x3, h)
def fX5_trace (x0 : Nat) (h : ZH) : Option (Int64 × ZH) :=
  if x0 < zn h ∧ zK h x0 = 5 then (zloop (lX5_trace_4 x0) zfu ((lN 0), (nI 0), h)) else none
theorem kX5_trace {x0 : Nat} {h : ZH} {x : Int64 × ZH} (e : fX5_trace x0 h = some x) : x0 < zn h ∧ zK h x0 = 5 := by
  unfold fX5_trace at e
  exact zguard e
theorem mX5_trace (b0 : Nat) (x0 : Nat) (h : ZH) : ZM zj b0 YX5_trace 1 [.ref (b0 + x0)] h (fX5_trace x0 h) := by
  unfold fX5_trace
  refine ZM.of (by decide) rfl (Nat.le_of_ble_eq_true rfl) (fun _ => trivial) ?_
  refine z_sub (lv2 := [(0, .ref (b0 + x0))]) [0] rfl ?_
  refine z_guard (fun _ => ?_)
  refine z_lconst (lN 0) 1 rfl dX5_trace_0 rfl ?_
  refine z_lstore_n (lv2 := [(1, .long (lN 0)), (0, .ref (b0 + x0))]) 2 dX5_trace_1 rfl (Nat.le_of_ble_eq_true rfl) rfl ?_
  refine z_iconst (nI 0) 3 zki_0 dX5_trace_2 rfl ?_
  refine z_istore_n (lv2 := [(3, .int (nI 0)), (1, .long (lN 0)), (0, .ref (b0 + x0))]) 4 dX5_trace_3 rfl (Nat.le_of_ble_eq_true rfl) rfl ?_
  exact z_sub [2, 1, 0] rfl (BX5_trace_4 b0 x0 zfu (lN 0) (nI 0) h)
-- X5_compute
def kX5_compute_46 (self23 : Int32 × ZH → Option (ZH)) (x0 : Nat) (x2 : Int32) (self46 : Int32 × ZH → Option (ZH)) (x3 : Int32) (h : ZH) : Option (ZH) :=
  if (nI 8) ≤ x3 then ((fX5_multiply x0 h).bind fun h2 =>
  (gR h2 5 x0 3).bind fun v3 =>
  (fX5_trace x0 h2).bind fun q4 =>
  if (x2.toInt64) = 0 then none else
  (sJ q4.2 v3 ((nI 8) - x2) ((-q4.1) / (x2.toInt64))).bind fun h5 =>
  self23 ((x2 + (nI 1)), h5)) else
  ((gR h 5 x0 1).bind fun v6 =>
  zl (((nI 8) * x3) + x3) fun v7 =>
  (lJ h v6 v7).bind fun v8 =>
  (gR h 5 x0 3).bind fun v9 =>
  (lJ h v9 (((nI 8) - x2) + (nI 1))).bind fun v10 =>
  (sJ h v6 v7 (v8 + v10)).bind fun h11 =>
  self46 ((x3 + (nI 1)), h11))
def lX5_compute_46 (self23 : Int32 × ZH → Option (ZH)) (x0 : Nat) (x2 : Int32) : (Int32 × ZH → Option (ZH)) → Int32 × ZH → Option (ZH) := fun self s => kX5_compute_46 self23 x0 x2 self s.1 s.2
theorem KX5_compute_46 (b0 : Nat) (self23 : Int32 × ZH → Option (ZH)) (x0 : Nat) (x2 : Int32) (hself23 : ∀ (y2 : Int32) (hh : ZH), Zr zv b0 YX5_compute 4 23 [(0, .ref (b0 + x0)), (2, .int y2)] [] hh (self23 (y2, hh))) (self46 : Int32 × ZH → Option (ZH)) (hself46 : ∀ (y3 : Int32) (hh : ZH), Zr zv b0 YX5_compute 4 46 [(0, .ref (b0 + x0)), (2, .int x2), (3, .int y3)] [] hh (self46 (y3, hh))) (x3 : Int32) (h : ZH) : Zr zv b0 YX5_compute 4 46 [(0, .ref (b0 + x0)), (2, .int x2), (3, .int x3)] [] h (kX5_compute_46 self23 x0 x2 self46 x3 h) := by
  unfold kX5_compute_46
  refine z_iload_n 47 2 dX5_compute_46 rfl rfl ?_
  refine z_bipush (nI 8) 49 zkb_8 dX5_compute_47 rfl ?_
  refine z_icmp_ge 83 52 dX5_compute_49 (by decide) rfl (fun c1 => ?_) (fun c1 => ?_)
  · refine z_aload_n 84 0 dX5_compute_83 rfl rfl ?_
    refine z_callVv 87 (mX5_multiply b0 x0 h) zyX5_multiply rfl w_619 (ci := 5) rfl (Nat.le_of_ble_eq_true rfl) (fun _ e9 => kX5_multiply e9) wm_yX5_multiply ws_yX5_multiply (Nat.le_of_ble_eq_true rfl) rfl (Nat.le_of_ble_eq_true rfl) dX5_compute_84 rfl (fun h2 => ?_)
    refine z_aload_n 88 0 dX5_compute_87 rfl rfl ?_
    refine z_getR 91 zC5 (Nat.le_of_ble_eq_true rfl) rfl w_209 dX5_compute_88 rfl (fun v3 _ => ?_)
    refine z_bipush (nI 8) 93 zkb_8 dX5_compute_91 rfl ?_
    refine z_iload_n 94 1 dX5_compute_93 rfl rfl ?_
    refine z_isub 95 dX5_compute_94 rfl ?_
    refine z_aload_n 96 0 dX5_compute_95 rfl rfl ?_
    refine z_callVj 99 (mX5_trace b0 x0 h2) zyX5_trace rfl w_623 (ci := 5) rfl (Nat.le_of_ble_eq_true rfl) (fun _ e9 => kX5_trace e9) wm_yX5_trace ws_yX5_trace (Nat.le_of_ble_eq_true rfl) rfl (Nat.le_of_ble_eq_true rfl) dX5_compute_96 rfl (fun q4 => ?_)
    refine z_lneg 100 dX5_compute_99 rfl ?_
    refine z_iload_n 101 1 dX5_compute_100 rfl rfl ?_
    refine z_i2l 102 dX5_compute_101 rfl ?_
    refine z_ldiv 103 dX5_compute_102 rfl (fun _ => ?_)
    refine z_lastore 104 dX5_compute_103 rfl (fun h5 _ => ?_)
    refine z_iinc (lv2 := [(2, .int (x2 + (nI 1))), (0, .ref (b0 + x0)), (3, .int x3)]) (nI 1) 107 1 dX5_compute_104 rfl rfl zki_1 (Nat.le_of_ble_eq_true rfl) rfl ?_
    refine z_goto 23 dX5_compute_107 (by decide) ?_
    exact z_sub [1, 0] rfl (hself23 (x2 + (nI 1)) h5)
  · refine z_aload_n 53 0 dX5_compute_52 rfl rfl ?_
    refine z_getR 56 zC5 (Nat.le_of_ble_eq_true rfl) rfl w_207 dX5_compute_53 rfl (fun v6 _ => ?_)
    refine z_bipush (nI 8) 58 zkb_8 dX5_compute_56 rfl ?_
    refine z_iload_n 59 2 dX5_compute_58 rfl rfl ?_
    refine z_imul 60 dX5_compute_59 rfl ?_
    refine z_iload_n 61 2 dX5_compute_60 rfl rfl ?_
    refine z_iadd 62 dX5_compute_61 rfl ?_
    refine z_letI (fun v7 _ => ?_)
    refine z_dup2 63 rfl rfl dX5_compute_62 rfl ?_
    refine z_laload 64 dX5_compute_63 rfl (fun v8 _ => ?_)
    refine z_aload_n 65 0 dX5_compute_64 rfl rfl ?_
    refine z_getR 68 zC5 (Nat.le_of_ble_eq_true rfl) rfl w_209 dX5_compute_65 rfl (fun v9 _ => ?_)
    refine z_bipush (nI 8) 70 zkb_8 dX5_compute_68 rfl ?_
    refine z_iload_n 71 1 dX5_compute_70 rfl rfl ?_
    refine z_isub 72 dX5_compute_71 rfl ?_
    refine z_iconst (nI 1) 73 zki_1 dX5_compute_72 rfl ?_
    refine z_iadd 74 dX5_compute_73 rfl ?_
    refine z_laload 75 dX5_compute_74 rfl (fun v10 _ => ?_)
    refine z_ladd 76 dX5_compute_75 rfl ?_
    refine z_lastore 77 dX5_compute_76 rfl (fun h11 _ => ?_)
    refine z_iinc (lv2 := [(3, .int (x3 + (nI 1))), (0, .ref (b0 + x0)), (2, .int x2)]) (nI 1) 80 2 dX5_compute_77 rfl rfl zki_1 (Nat.le_of_ble_eq_true rfl) rfl ?_
    refine z_goto 46 dX5_compute_80 (by decide) ?_
    exact z_sub [1, 2, 0] rfl (hself46 (x3 + (nI 1)) h11)
theorem BX5_compute_46 (b0 : Nat) (self23 : Int32 × ZH → Option (ZH)) (x0 : Nat) (x2 : Int32) (hself23 : ∀ (y2 : Int32) (hh : ZH), Zr zv b0 YX5_compute 4 23 [(0, .ref (b0 + x0)), (2, .int y2)] [] hh (self23 (y2, hh))) (n : Nat) (x3 : Int32) (h : ZH) : Zr zv b0 YX5_compute 4 46 [(0, .ref (b0 + x0)), (2, .int x2), (3, .int x3)] [] h (zloop (lX5_compute_46 self23 x0 x2) n (x3, h)) :=
  zloop_Zr (fun s => [(0, .ref (b0 + x0)), (2, .int x2), (3, .int s.1)]) (fun _ => []) (fun s => s.2) (lX5_compute_46 self23 x0 x2) (fun self hs s => KX5_compute_46 b0 self23 x0 x2 hself23 self (fun y3 hh => hs (y3, hh)) s.1 s.2) n (x3, h)
def kX5_compute_23 (x0 : Nat) (self23 : Int32 × ZH → Option (ZH)) (x2 : Int32) (h : ZH) : Option (ZH) :=
  if (nI 8) < x2 then (some h) else
  ((gR h 5 x0 2).bind fun v2 =>
  (gR h 5 x0 1).bind fun v3 =>
  (zcpJ h v2 v3 (nI 0) (nI 0) (nI 64)).bind fun h4 =>
  zloop (lX5_compute_46 self23 x0 x2) zfu ((nI 0), h4))
def lX5_compute_23 (x0 : Nat) : (Int32 × ZH → Option (ZH)) → Int32 × ZH → Option (ZH) := fun self s => kX5_compute_23 x0 self s.1 s.2
theorem KX5_compute_23 (b0 : Nat) (x0 : Nat) (self23 : Int32 × ZH → Option (ZH)) (hself23 : ∀ (y2 : Int32) (hh : ZH), Zr zv b0 YX5_compute 4 23 [(0, .ref (b0 + x0)), (2, .int y2)] [] hh (self23 (y2, hh))) (x2 : Int32) (h : ZH) : Zr zv b0 YX5_compute 4 23 [(0, .ref (b0 + x0)), (2, .int x2)] [] h (kX5_compute_23 x0 self23 x2 h) := by
  unfold kX5_compute_23
  refine z_iload_n 24 1 dX5_compute_23 rfl rfl ?_
  refine z_bipush (nI 8) 26 zkb_8 dX5_compute_24 rfl ?_
  refine z_icmp_gt 110 29 dX5_compute_26 (by decide) rfl (fun c1 => ?_) (fun c1 => ?_)
  · exact z_return dX5_compute_110 rfl
  · refine z_aload_n 30 0 dX5_compute_29 rfl rfl ?_
    refine z_getR 33 zC5 (Nat.le_of_ble_eq_true rfl) rfl w_208 dX5_compute_30 rfl (fun v2 _ => ?_)
    refine z_iconst (nI 0) 34 zki_0 dX5_compute_33 rfl ?_
    refine z_aload_n 35 0 dX5_compute_34 rfl rfl ?_
    refine z_getR 38 zC5 (Nat.le_of_ble_eq_true rfl) rfl w_207 dX5_compute_35 rfl (fun v3 _ => ?_)
    refine z_iconst (nI 0) 39 zki_0 dX5_compute_38 rfl ?_
    refine z_bipush (nI 64) 41 zkb_64 dX5_compute_39 rfl ?_
    refine z_arraycopyJ 44 w_618 wv_arraycopyName wt_arraycopyName wi_RJ10 (Nat.le_of_ble_eq_true rfl) (Nat.le_of_ble_eq_true rfl) dX5_compute_41 rfl (fun h4 _ => ?_)
    refine z_iconst (nI 0) 45 zki_0 dX5_compute_44 rfl ?_
    refine z_istore_n (lv2 := [(3, .int (nI 0)), (0, .ref (b0 + x0)), (2, .int x2)]) 46 dX5_compute_45 rfl (Nat.le_of_ble_eq_true rfl) rfl ?_
    exact z_sub [1, 2, 0] rfl (BX5_compute_46 b0 self23 x0 x2 hself23 zfu (nI 0) h4)
theorem BX5_compute_23 (b0 : Nat) (x0 : Nat) (n : Nat) (x2 : Int32) (h : ZH) : Zr zv b0 YX5_compute 4 23 [(0, .ref (b0 + x0)), (2, .int x2)] [] h (zloop (lX5_compute_23 x0) n (x2, h)) :=
  zloop_Zr (fun s => [(0, .ref (b0 + x0)), (2, .int s.1)]) (fun _ => []) (fun s => s.2) (lX5_compute_23 x0) (fun self hs s => KX5_compute_23 b0 x0 self (fun y2 hh => hs (y2, hh)) s.1 s.2) n (x2, h)
def fX5_compute (x0 : Nat) (x1 : Nat) (h : ZH) : Option (ZH) :=
  if x0 < zn h ∧ zK h x0 = 5 then ((fX5_countEdges x0 x1 h).bind fun h1 =>
  (gR h1 5 x0 2).bind fun v2 =>
  (fJ7_fill_d0a16 v2 (lN 0) h1).bind fun h3 =>
  (gR h3 5 x0 3).bind fun v4 =>
  (sJ h3 v4 (nI 8) (lN 1)).bind fun h5 =>
  zloop (lX5_compute_23 x0) zfu ((nI 1), h5)) else none
theorem kX5_compute {x0 : Nat} {x1 : Nat} {h : ZH} {x : ZH} (e : fX5_compute x0 x1 h = some x) : x0 < zn h ∧ zK h x0 = 5 := by
  unfold fX5_compute at e
  exact zguard e
theorem mX5_compute (b0 : Nat) (x0 : Nat) (x1 : Nat) (h : ZH) : ZM zv b0 YX5_compute 4 [.ref (b0 + x0), .ref (b0 + x1)] h (fX5_compute x0 x1 h) := by
  unfold fX5_compute
  refine ZM.of (by decide) rfl (Nat.le_of_ble_eq_true rfl) (fun _ => trivial) ?_
  refine z_sub (lv2 := [(0, .ref (b0 + x0)), (1, .ref (b0 + x1))]) [0, 1] rfl ?_
  refine z_guard (fun _ => ?_)
  refine z_aload_n 1 0 dX5_compute_0 rfl rfl ?_
  refine z_aload_n 2 1 dX5_compute_1 rfl rfl ?_
  refine z_callVv 5 (mX5_countEdges b0 x0 x1 h) zyX5_countEdges rfl w_610 (ci := 5) rfl (Nat.le_of_ble_eq_true rfl) (fun _ e9 => kX5_countEdges e9) wm_yX5_countEdges ws_yX5_countEdges (Nat.le_of_ble_eq_true rfl) rfl (Nat.le_of_ble_eq_true rfl) dX5_compute_2 rfl (fun h1 => ?_)
  refine z_aload_n 6 0 dX5_compute_5 rfl rfl ?_
  refine z_getR 9 zC5 (Nat.le_of_ble_eq_true rfl) rfl w_208 dX5_compute_6 rfl (fun v2 _ => ?_)
  refine z_lconst (lN 0) 10 rfl dX5_compute_9 rfl ?_
  refine z_callSv 13 (mJ7_fill_d0a16 b0 v2 (lN 0) h1) zyJ7_fill_d0a16 rfl w_615 wt_yJ7_fill_d0a16 (Nat.le_of_ble_eq_true rfl) rfl (Nat.le_of_ble_eq_true rfl) dX5_compute_10 rfl (fun h3 => ?_)
  refine z_aload_n 14 0 dX5_compute_13 rfl rfl ?_
  refine z_getR 17 zC5 (Nat.le_of_ble_eq_true rfl) rfl w_209 dX5_compute_14 rfl (fun v4 _ => ?_)
  refine z_bipush (nI 8) 19 zkb_8 dX5_compute_17 rfl ?_
  refine z_lconst (lN 1) 20 rfl dX5_compute_19 rfl ?_
  refine z_lastore 21 dX5_compute_20 rfl (fun h5 _ => ?_)
  refine z_iconst (nI 1) 22 zki_1 dX5_compute_21 rfl ?_
  refine z_istore_n (lv2 := [(2, .int (nI 1)), (0, .ref (b0 + x0)), (1, .ref (b0 + x1))]) 23 dX5_compute_22 rfl (Nat.le_of_ble_eq_true rfl) rfl ?_
  exact z_sub [1, 0] rfl (BX5_compute_23 b0 x0 zfu (nI 1) h5)
