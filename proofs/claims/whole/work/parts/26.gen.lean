-- X11_to
def fX11_to (x0 : Nat) (x1 : Int32) (x2 : Int32) (x3 : Int32) (h : ZH) : Option (Int32 × ZH) :=
  if x0 < zn h ∧ zK h x0 = 11 then ((gR h 11 x0 0).bind fun v1 =>
  (lI h 14 v1 ((((nI 32) * x1) + ((nI 4) * x2)) + x3)).bind fun v2 =>
  some (v2, h)) else none
theorem kX11_to {x0 : Nat} {x1 : Int32} {x2 : Int32} {x3 : Int32} {h : ZH} {x : Int32 × ZH} (e : fX11_to x0 x1 x2 x3 h = some x) : x0 < zn h ∧ zK h x0 = 11 := by
  unfold fX11_to at e
  exact zguard e
theorem mX11_to (b0 : Nat) (x0 : Nat) (x1 : Int32) (x2 : Int32) (x3 : Int32) (h : ZH) : ZM zi b0 YX11_to 1 [.ref (b0 + x0), .int x1, .int x2, .int x3] h (fX11_to x0 x1 x2 x3 h) := by
  unfold fX11_to
  refine ZM.of (by decide) rfl (Nat.le_of_ble_eq_true rfl) (fun _ => trivial) ?_
  refine z_sub (lv2 := [(0, .ref (b0 + x0)), (1, .int x1), (2, .int x2), (3, .int x3)]) [0, 1, 2, 3] rfl ?_
  refine z_guard (fun _ => ?_)
  refine z_aload_n 1 0 dX11_to_0 rfl rfl ?_
  refine z_getR 4 zC11 (Nat.le_of_ble_eq_true rfl) rfl w_1017 dX11_to_1 rfl (fun v1 _ => ?_)
  refine z_bipush (nI 32) 6 zkb_32 dX11_to_4 rfl ?_
  refine z_iload_n 7 1 dX11_to_6 rfl rfl ?_
  refine z_imul 8 dX11_to_7 rfl ?_
  refine z_iconst (nI 4) 9 zki_4 dX11_to_8 rfl ?_
  refine z_iload_n 10 2 dX11_to_9 rfl rfl ?_
  refine z_imul 11 dX11_to_10 rfl ?_
  refine z_iadd 12 dX11_to_11 rfl ?_
  refine z_iload_n 13 3 dX11_to_12 rfl rfl ?_
  refine z_iadd 14 dX11_to_13 rfl ?_
  refine z_iaload 15 dX11_to_14 rfl (fun v2 _ => ?_)
  exact z_ireturn dX11_to_15 rfl
-- X11_edgesOf
def kX11_edgesOf_4 (x0 : Nat) (x1 : Int32) (self4 : Int32 × Int32 × ZH → Option (Int32 × ZH)) (x2 : Int32) (x3 : Int32) (h : ZH) : Option (Int32 × ZH) :=
  if (nI 32) ≤ x3 then (some (x2, h)) else
  ((gR h 11 x0 0).bind fun v2 =>
  (lI h 14 v2 (((nI 32) * x1) + x3)).bind fun v3 =>
  (fJ6_bitCount_0f7a4 v3 h).bind fun q4 =>
  zl (x2 + q4.1) fun v5 =>
  self4 (v5, (x3 + (nI 1)), q4.2))
def lX11_edgesOf_4 (x0 : Nat) (x1 : Int32) : (Int32 × Int32 × ZH → Option (Int32 × ZH)) → Int32 × Int32 × ZH → Option (Int32 × ZH) := fun self s => kX11_edgesOf_4 x0 x1 self s.1 s.2.1 s.2.2
theorem KX11_edgesOf_4 (b0 : Nat) (x0 : Nat) (x1 : Int32) (self4 : Int32 × Int32 × ZH → Option (Int32 × ZH)) (hself4 : ∀ (y2 : Int32) (y3 : Int32) (hh : ZH), Zr zi b0 YX11_edgesOf 2 4 [(0, .ref (b0 + x0)), (1, .int x1), (2, .int y2), (3, .int y3)] [] hh (self4 (y2, y3, hh))) (x2 : Int32) (x3 : Int32) (h : ZH) : Zr zi b0 YX11_edgesOf 2 4 [(0, .ref (b0 + x0)), (1, .int x1), (2, .int x2), (3, .int x3)] [] h (kX11_edgesOf_4 x0 x1 self4 x2 x3 h) := by
  unfold kX11_edgesOf_4
  refine z_iload_n 5 3 dX11_edgesOf_4 rfl rfl ?_
  refine z_bipush (nI 32) 7 zkb_32 dX11_edgesOf_5 rfl ?_
  refine z_icmp_ge 33 10 dX11_edgesOf_7 (by decide) rfl (fun c1 => ?_) (fun c1 => ?_)
  · refine z_iload_n 34 2 dX11_edgesOf_33 rfl rfl ?_
    exact z_ireturn dX11_edgesOf_34 rfl
  · refine z_iload_n 11 2 dX11_edgesOf_10 rfl rfl ?_
    refine z_aload_n 12 0 dX11_edgesOf_11 rfl rfl ?_
    refine z_getR 15 zC11 (Nat.le_of_ble_eq_true rfl) rfl w_1017 dX11_edgesOf_12 rfl (fun v2 _ => ?_)
    refine z_bipush (nI 32) 17 zkb_32 dX11_edgesOf_15 rfl ?_
    refine z_iload_n 18 1 dX11_edgesOf_17 rfl rfl ?_
    refine z_imul 19 dX11_edgesOf_18 rfl ?_
    refine z_iload_n 20 3 dX11_edgesOf_19 rfl rfl ?_
    refine z_iadd 21 dX11_edgesOf_20 rfl ?_
    refine z_iaload 22 dX11_edgesOf_21 rfl (fun v3 _ => ?_)
    refine z_callSi 25 (mJ6_bitCount_0f7a4 b0 v3 h) zyJ6_bitCount_0f7a4 rfl w_1178 wt_yJ6_bitCount_0f7a4 (Nat.le_of_ble_eq_true rfl) rfl (Nat.le_of_ble_eq_true rfl) dX11_edgesOf_22 rfl (fun q4 => ?_)
    refine z_iadd 26 dX11_edgesOf_25 rfl ?_
    refine z_letI (fun v5 _ => ?_)
    refine z_istore_n (lv2 := [(2, .int v5), (0, .ref (b0 + x0)), (1, .int x1), (3, .int x3)]) 27 dX11_edgesOf_26 rfl (Nat.le_of_ble_eq_true rfl) rfl ?_
    refine z_iinc (lv2 := [(3, .int (x3 + (nI 1))), (2, .int v5), (0, .ref (b0 + x0)), (1, .int x1)]) (nI 1) 30 3 dX11_edgesOf_27 rfl rfl zki_1 (Nat.le_of_ble_eq_true rfl) rfl ?_
    refine z_goto 4 dX11_edgesOf_30 (by decide) ?_
    exact z_sub [2, 3, 1, 0] rfl (hself4 v5 (x3 + (nI 1)) q4.2)
theorem BX11_edgesOf_4 (b0 : Nat) (x0 : Nat) (x1 : Int32) (n : Nat) (x2 : Int32) (x3 : Int32) (h : ZH) : Zr zi b0 YX11_edgesOf 2 4 [(0, .ref (b0 + x0)), (1, .int x1), (2, .int x2), (3, .int x3)] [] h (zloop (lX11_edgesOf_4 x0 x1) n (x2, x3, h)) :=
  zloop_Zr (fun s => [(0, .ref (b0 + x0)), (1, .int x1), (2, .int s.1), (3, .int s.2.1)]) (fun _ => []) (fun s => s.2.2) (lX11_edgesOf_4 x0 x1) (fun self hs s => KX11_edgesOf_4 b0 x0 x1 self (fun y2 y3 hh => hs (y2, y3, hh)) s.1 s.2.1 s.2.2) n (x2, x3, h)
def fX11_edgesOf (x0 : Nat) (x1 : Int32) (h : ZH) : Option (Int32 × ZH) :=
  if x0 < zn h ∧ zK h x0 = 11 then (zloop (lX11_edgesOf_4 x0 x1) zfu ((nI 0), (nI 0), h)) else none
theorem kX11_edgesOf {x0 : Nat} {x1 : Int32} {h : ZH} {x : Int32 × ZH} (e : fX11_edgesOf x0 x1 h = some x) : x0 < zn h ∧ zK h x0 = 11 := by
  unfold fX11_edgesOf at e
  exact zguard e
theorem mX11_edgesOf (b0 : Nat) (x0 : Nat) (x1 : Int32) (h : ZH) : ZM zi b0 YX11_edgesOf 2 [.ref (b0 + x0), .int x1] h (fX11_edgesOf x0 x1 h) := by
  unfold fX11_edgesOf
  refine ZM.of (by decide) rfl (Nat.le_of_ble_eq_true rfl) (fun _ => trivial) ?_
  refine z_sub (lv2 := [(0, .ref (b0 + x0)), (1, .int x1)]) [0, 1] rfl ?_
  refine z_guard (fun _ => ?_)
  refine z_iconst (nI 0) 1 zki_0 dX11_edgesOf_0 rfl ?_
  refine z_istore_n (lv2 := [(2, .int (nI 0)), (0, .ref (b0 + x0)), (1, .int x1)]) 2 dX11_edgesOf_1 rfl (Nat.le_of_ble_eq_true rfl) rfl ?_
  refine z_iconst (nI 0) 3 zki_0 dX11_edgesOf_2 rfl ?_
  refine z_istore_n (lv2 := [(3, .int (nI 0)), (2, .int (nI 0)), (0, .ref (b0 + x0)), (1, .int x1)]) 4 dX11_edgesOf_3 rfl (Nat.le_of_ble_eq_true rfl) rfl ?_
  exact z_sub [2, 3, 1, 0] rfl (BX11_edgesOf_4 b0 x0 x1 zfu (nI 0) (nI 0) h)
-- X11_total
def kX11_total_4 (x0 : Nat) (self4 : Int32 × Int32 × ZH → Option (Int32 × ZH)) (x1 : Int32) (x2 : Int32) (h : ZH) : Option (Int32 × ZH) :=
  if (nI 6) ≤ x2 then (some (x1, h)) else
  ((fX11_edgesOf x0 x2 h).bind fun q2 =>
  zl (x1 + q2.1) fun v3 =>
  self4 (v3, (x2 + (nI 1)), q2.2))
def lX11_total_4 (x0 : Nat) : (Int32 × Int32 × ZH → Option (Int32 × ZH)) → Int32 × Int32 × ZH → Option (Int32 × ZH) := fun self s => kX11_total_4 x0 self s.1 s.2.1 s.2.2
theorem KX11_total_4 (b0 : Nat) (x0 : Nat) (self4 : Int32 × Int32 × ZH → Option (Int32 × ZH)) (hself4 : ∀ (y1 : Int32) (y2 : Int32) (hh : ZH), Zr zi b0 YX11_total 3 4 [(0, .ref (b0 + x0)), (1, .int y1), (2, .int y2)] [] hh (self4 (y1, y2, hh))) (x1 : Int32) (x2 : Int32) (h : ZH) : Zr zi b0 YX11_total 3 4 [(0, .ref (b0 + x0)), (1, .int x1), (2, .int x2)] [] h (kX11_total_4 x0 self4 x1 x2 h) := by
  unfold kX11_total_4
  refine z_iload_n 5 2 dX11_total_4 rfl rfl ?_
  refine z_bipush (nI 6) 7 zkb_6 dX11_total_5 rfl ?_
  refine z_icmp_ge 24 10 dX11_total_7 (by decide) rfl (fun c1 => ?_) (fun c1 => ?_)
  · refine z_iload_n 25 1 dX11_total_24 rfl rfl ?_
    exact z_ireturn dX11_total_25 rfl
  · refine z_iload_n 11 1 dX11_total_10 rfl rfl ?_
    refine z_aload_n 12 0 dX11_total_11 rfl rfl ?_
    refine z_iload_n 13 2 dX11_total_12 rfl rfl ?_
    refine z_callVi 16 (mX11_edgesOf b0 x0 x2 h) zyX11_edgesOf rfl w_1174 (ci := 11) rfl (Nat.le_of_ble_eq_true rfl) (fun _ e9 => kX11_edgesOf e9) wm_yX11_edgesOf ws_yX11_edgesOf (Nat.le_of_ble_eq_true rfl) rfl (Nat.le_of_ble_eq_true rfl) dX11_total_13 rfl (fun q2 => ?_)
    refine z_iadd 17 dX11_total_16 rfl ?_
    refine z_letI (fun v3 _ => ?_)
    refine z_istore_n (lv2 := [(1, .int v3), (0, .ref (b0 + x0)), (2, .int x2)]) 18 dX11_total_17 rfl (Nat.le_of_ble_eq_true rfl) rfl ?_
    refine z_iinc (lv2 := [(2, .int (x2 + (nI 1))), (1, .int v3), (0, .ref (b0 + x0))]) (nI 1) 21 2 dX11_total_18 rfl rfl zki_1 (Nat.le_of_ble_eq_true rfl) rfl ?_
    refine z_goto 4 dX11_total_21 (by decide) ?_
    exact z_sub [2, 1, 0] rfl (hself4 v3 (x2 + (nI 1)) q2.2)
theorem BX11_total_4 (b0 : Nat) (x0 : Nat) (n : Nat) (x1 : Int32) (x2 : Int32) (h : ZH) : Zr zi b0 YX11_total 3 4 [(0, .ref (b0 + x0)), (1, .int x1), (2, .int x2)] [] h (zloop (lX11_total_4 x0) n (x1, x2, h)) :=
  zloop_Zr (fun s => [(0, .ref (b0 + x0)), (1, .int s.1), (2, .int s.2.1)]) (fun _ => []) (fun s => s.2.2) (lX11_total_4 x0) (fun self hs s => KX11_total_4 b0 x0 self (fun y1 y2 hh => hs (y1, y2, hh)) s.1 s.2.1 s.2.2) n (x1, x2, h)
def fX11_total (x0 : Nat) (h : ZH) : Option (Int32 × ZH) :=
  if x0 < zn h ∧ zK h x0 = 11 then (zloop (lX11_total_4 x0) zfu ((nI 0), (nI 0), h)) else none
theorem kX11_total {x0 : Nat} {h : ZH} {x : Int32 × ZH} (e : fX11_total x0 h = some x) : x0 < zn h ∧ zK h x0 = 11 := by
  unfold fX11_total at e
  exact zguard e
theorem mX11_total (b0 : Nat) (x0 : Nat) (h : ZH) : ZM zi b0 YX11_total 3 [.ref (b0 + x0)] h (fX11_total x0 h) := by
  unfold fX11_total
  refine ZM.of (by decide) rfl (Nat.le_of_ble_eq_true rfl) (fun _ => trivial) ?_
  refine z_sub (lv2 := [(0, .ref (b0 + x0))]) [0] rfl ?_
  refine z_guard (fun _ => ?_)
  refine z_iconst (nI 0) 1 zki_0 dX11_total_0 rfl ?_
  refine z_istore_n (lv2 := [(1, .int (nI 0)), (0, .ref (b0 + x0))]) 2 dX11_total_1 rfl (Nat.le_of_ble_eq_true rfl) rfl ?_
  refine z_iconst (nI 0) 3 zki_0 dX11_total_2 rfl ?_
  refine z_istore_n (lv2 := [(2, .int (nI 0)), (1, .int (nI 0)), (0, .ref (b0 + x0))]) 4 dX11_total_3 rfl (Nat.le_of_ble_eq_true rfl) rfl ?_
  exact z_sub [2, 1, 0] rfl (BX11_total_4 b0 x0 zfu (nI 0) (nI 0) h)
-- X11_clearMade
def kX11_clearMade_2 (x0 : Nat) (self2 : Int32 × ZH → Option (ZH)) (x1 : Int32) (h : ZH) : Option (ZH) :=
  if (nI 32) ≤ x1 then (some h) else
  ((gR h 11 x0 1).bind fun v2 =>
  (sI h 14 v2 x1 (nI 0)).bind fun h3 =>
  self2 ((x1 + (nI 1)), h3))
def lX11_clearMade_2 (x0 : Nat) : (Int32 × ZH → Option (ZH)) → Int32 × ZH → Option (ZH) := fun self s => kX11_clearMade_2 x0 self s.1 s.2
theorem KX11_clearMade_2 (b0 : Nat) (x0 : Nat) (self2 : Int32 × ZH → Option (ZH)) (hself2 : ∀ (y1 : Int32) (hh : ZH), Zr zv b0 YX11_clearMade 1 2 [(0, .ref (b0 + x0)), (1, .int y1)] [] hh (self2 (y1, hh))) (x1 : Int32) (h : ZH) : Zr zv b0 YX11_clearMade 1 2 [(0, .ref (b0 + x0)), (1, .int x1)] [] h (kX11_clearMade_2 x0 self2 x1 h) := by
  unfold kX11_clearMade_2
  refine z_iload_n 3 1 dX11_clearMade_2 rfl rfl ?_
  refine z_bipush (nI 32) 5 zkb_32 dX11_clearMade_3 rfl ?_
  refine z_icmp_ge 21 8 dX11_clearMade_5 (by decide) rfl (fun c1 => ?_) (fun c1 => ?_)
  · exact z_return dX11_clearMade_21 rfl
  · refine z_aload_n 9 0 dX11_clearMade_8 rfl rfl ?_
    refine z_getR 12 zC11 (Nat.le_of_ble_eq_true rfl) rfl w_1018 dX11_clearMade_9 rfl (fun v2 _ => ?_)
    refine z_iload_n 13 1 dX11_clearMade_12 rfl rfl ?_
    refine z_iconst (nI 0) 14 zki_0 dX11_clearMade_13 rfl ?_
    refine z_iastore 15 dX11_clearMade_14 rfl (fun h3 _ => ?_)
    refine z_iinc (lv2 := [(1, .int (x1 + (nI 1))), (0, .ref (b0 + x0))]) (nI 1) 18 1 dX11_clearMade_15 rfl rfl zki_1 (Nat.le_of_ble_eq_true rfl) rfl ?_
    refine z_goto 2 dX11_clearMade_18 (by decide) ?_
    exact z_sub [1, 0] rfl (hself2 (x1 + (nI 1)) h3)
theorem BX11_clearMade_2 (b0 : Nat) (x0 : Nat) (n : Nat) (x1 : Int32) (h : ZH) : Zr zv b0 YX11_clearMade 1 2 [(0, .ref (b0 + x0)), (1, .int x1)] [] h (zloop (lX11_clearMade_2 x0) n (x1, h)) :=
  zloop_Zr (fun s => [(0, .ref (b0 + x0)), (1, .int s.1)]) (fun _ => []) (fun s => s.2) (lX11_clearMade_2 x0) (fun self hs s => KX11_clearMade_2 b0 x0 self (fun y1 hh => hs (y1, hh)) s.1 s.2) n (x1, h)
def fX11_clearMade (x0 : Nat) (h : ZH) : Option (ZH) :=
  if x0 < zn h ∧ zK h x0 = 11 then (zloop (lX11_clearMade_2 x0) zfu ((nI 0), h)) else none
theorem kX11_clearMade {x0 : Nat} {h : ZH} {x : ZH} (e : fX11_clearMade x0 h = some x) : x0 < zn h ∧ zK h x0 = 11 := by
  unfold fX11_clearMade at e
  exact zguard e
theorem mX11_clearMade (b0 : Nat) (x0 : Nat) (h : ZH) : ZM zv b0 YX11_clearMade 1 [.ref (b0 + x0)] h (fX11_clearMade x0 h) := by
  unfold fX11_clearMade
  refine ZM.of (by decide) rfl (Nat.le_of_ble_eq_true rfl) (fun _ => trivial) ?_
  refine z_sub (lv2 := [(0, .ref (b0 + x0))]) [0] rfl ?_
  refine z_guard (fun _ => ?_)
  refine z_iconst (nI 0) 1 zki_0 dX11_clearMade_0 rfl ?_
  refine z_istore_n (lv2 := [(1, .int (nI 0)), (0, .ref (b0 + x0))]) 2 dX11_clearMade_1 rfl (Nat.le_of_ble_eq_true rfl) rfl ?_
  exact z_sub [1, 0] rfl (BX11_clearMade_2 b0 x0 zfu (nI 0) h)
-- X11_make
def kX11_make_2 (x0 : Nat) (x1 : Int32) (self2 : Int32 × ZH → Option (ZH)) (x2 : Int32) (h : ZH) : Option (ZH) :=
  if (nI 32) ≤ x2 then (some h) else
  ((gR h 11 x0 1).bind fun v2 =>
  (gR h 11 x0 0).bind fun v3 =>
  (lI h 14 v3 (((nI 32) * x1) + x2)).bind fun v4 =>
  (sI h 14 v2 x2 v4).bind fun h5 =>
  self2 ((x2 + (nI 1)), h5))
def lX11_make_2 (x0 : Nat) (x1 : Int32) : (Int32 × ZH → Option (ZH)) → Int32 × ZH → Option (ZH) := fun self s => kX11_make_2 x0 x1 self s.1 s.2
theorem KX11_make_2 (b0 : Nat) (x0 : Nat) (x1 : Int32) (self2 : Int32 × ZH → Option (ZH)) (hself2 : ∀ (y2 : Int32) (hh : ZH), Zr zv b0 YX11_make 1 2 [(0, .ref (b0 + x0)), (1, .int x1), (2, .int y2)] [] hh (self2 (y2, hh))) (x2 : Int32) (h : ZH) : Zr zv b0 YX11_make 1 2 [(0, .ref (b0 + x0)), (1, .int x1), (2, .int x2)] [] h (kX11_make_2 x0 x1 self2 x2 h) := by
  unfold kX11_make_2
  refine z_iload_n 3 2 dX11_make_2 rfl rfl ?_
  refine z_bipush (nI 32) 5 zkb_32 dX11_make_3 rfl ?_
  refine z_icmp_ge 31 8 dX11_make_5 (by decide) rfl (fun c1 => ?_) (fun c1 => ?_)
  · exact z_return dX11_make_31 rfl
  · refine z_aload_n 9 0 dX11_make_8 rfl rfl ?_
    refine z_getR 12 zC11 (Nat.le_of_ble_eq_true rfl) rfl w_1018 dX11_make_9 rfl (fun v2 _ => ?_)
    refine z_iload_n 13 2 dX11_make_12 rfl rfl ?_
    refine z_aload_n 14 0 dX11_make_13 rfl rfl ?_
    refine z_getR 17 zC11 (Nat.le_of_ble_eq_true rfl) rfl w_1017 dX11_make_14 rfl (fun v3 _ => ?_)
    refine z_bipush (nI 32) 19 zkb_32 dX11_make_17 rfl ?_
    refine z_iload_n 20 1 dX11_make_19 rfl rfl ?_
    refine z_imul 21 dX11_make_20 rfl ?_
    refine z_iload_n 22 2 dX11_make_21 rfl rfl ?_
    refine z_iadd 23 dX11_make_22 rfl ?_
    refine z_iaload 24 dX11_make_23 rfl (fun v4 _ => ?_)
    refine z_iastore 25 dX11_make_24 rfl (fun h5 _ => ?_)
    refine z_iinc (lv2 := [(2, .int (x2 + (nI 1))), (0, .ref (b0 + x0)), (1, .int x1)]) (nI 1) 28 2 dX11_make_25 rfl rfl zki_1 (Nat.le_of_ble_eq_true rfl) rfl ?_
    refine z_goto 2 dX11_make_28 (by decide) ?_
    exact z_sub [1, 2, 0] rfl (hself2 (x2 + (nI 1)) h5)
theorem BX11_make_2 (b0 : Nat) (x0 : Nat) (x1 : Int32) (n : Nat) (x2 : Int32) (h : ZH) : Zr zv b0 YX11_make 1 2 [(0, .ref (b0 + x0)), (1, .int x1), (2, .int x2)] [] h (zloop (lX11_make_2 x0 x1) n (x2, h)) :=
  zloop_Zr (fun s => [(0, .ref (b0 + x0)), (1, .int x1), (2, .int s.1)]) (fun _ => []) (fun s => s.2) (lX11_make_2 x0 x1) (fun self hs s => KX11_make_2 b0 x0 x1 self (fun y2 hh => hs (y2, hh)) s.1 s.2) n (x2, h)
def fX11_make (x0 : Nat) (x1 : Int32) (h : ZH) : Option (ZH) :=
  if x0 < zn h ∧ zK h x0 = 11 then (zloop (lX11_make_2 x0 x1) zfu ((nI 0), h)) else none
theorem kX11_make {x0 : Nat} {x1 : Int32} {h : ZH} {x : ZH} (e : fX11_make x0 x1 h = some x) : x0 < zn h ∧ zK h x0 = 11 := by
  unfold fX11_make at e
  exact zguard e
theorem mX11_make (b0 : Nat) (x0 : Nat) (x1 : Int32) (h : ZH) : ZM zv b0 YX11_make 1 [.ref (b0 + x0), .int x1] h (fX11_make x0 x1 h) := by
  unfold fX11_make
  refine ZM.of (by decide) rfl (Nat.le_of_ble_eq_true rfl) (fun _ => trivial) ?_
  refine z_sub (lv2 := [(0, .ref (b0 + x0)), (1, .int x1)]) [0, 1] rfl ?_
  refine z_guard (fun _ => ?_)
  refine z_iconst (nI 0) 1 zki_0 dX11_make_0 rfl ?_
  refine z_istore_n (lv2 := [(2, .int (nI 0)), (0, .ref (b0 + x0)), (1, .int x1)]) 2 dX11_make_1 rfl (Nat.le_of_ble_eq_true rfl) rfl ?_
  exact z_sub [1, 2, 0] rfl (BX11_make_2 b0 x0 x1 zfu (nI 0) h)
-- X11_replace
def kX11_replace_97 (x0 : Nat) (x1 : Int32) (self97 : Int32 × ZH → Option (ZH)) (x2 : Int32) (h : ZH) : Option (ZH) :=
  if (nI 32) ≤ x2 then ((gI h 11 x0 4).bind fun v2 =>
  (pI h 11 x0 4 (v2 + (nI 1))).bind fun h3 =>
  some h3) else
  ((gR h 11 x0 2).bind fun v4 =>
  (gI h 11 x0 4).bind fun v5 =>
  (gR h 11 x0 0).bind fun v6 =>
  (lI h 14 v6 (((nI 32) * x1) + x2)).bind fun v7 =>
  (sI h 14 v4 (((nI 32) * v5) + x2) v7).bind fun h8 =>
  (gR h8 11 x0 0).bind fun v9 =>
  (gR h8 11 x0 1).bind fun v10 =>
  (lI h8 14 v10 x2).bind fun v11 =>
  (sI h8 14 v9 (((nI 32) * x1) + x2) v11).bind fun h12 =>
  self97 ((x2 + (nI 1)), h12))
def lX11_replace_97 (x0 : Nat) (x1 : Int32) : (Int32 × ZH → Option (ZH)) → Int32 × ZH → Option (ZH) := fun self s => kX11_replace_97 x0 x1 self s.1 s.2
theorem KX11_replace_97 (b0 : Nat) (x0 : Nat) (x1 : Int32) (self97 : Int32 × ZH → Option (ZH)) (hself97 : ∀ (y2 : Int32) (hh : ZH), Zr zv b0 YX11_replace 1 97 [(0, .ref (b0 + x0)), (1, .int x1), (2, .int y2)] [] hh (self97 (y2, hh))) (x2 : Int32) (h : ZH) : Zr zv b0 YX11_replace 1 97 [(0, .ref (b0 + x0)), (1, .int x1), (2, .int x2)] [] h (kX11_replace_97 x0 x1 self97 x2 h) := by
  unfold kX11_replace_97
  refine z_iload_n 98 2 dX11_replace_97 rfl rfl ?_
  refine z_bipush (nI 32) 100 zkb_32 dX11_replace_98 rfl ?_
  refine z_icmp_ge 151 103 dX11_replace_100 (by decide) rfl (fun c1 => ?_) (fun c1 => ?_)
  · refine z_aload_n 152 0 dX11_replace_151 rfl rfl ?_
    refine z_dup 153 rfl dX11_replace_152 rfl ?_
    refine z_getI 156 zC11 (Nat.le_of_ble_eq_true rfl) rfl w_1021 dX11_replace_153 rfl (fun v2 _ => ?_)
    refine z_iconst (nI 1) 157 zki_1 dX11_replace_156 rfl ?_
    refine z_iadd 158 dX11_replace_157 rfl ?_
    refine z_putI 161 zC11 (Nat.le_of_ble_eq_true rfl) rfl rfl rfl w_1021 dX11_replace_158 rfl (fun h3 _ => ?_)
    exact z_return dX11_replace_161 rfl
  · refine z_aload_n 104 0 dX11_replace_103 rfl rfl ?_
    refine z_getR 107 zC11 (Nat.le_of_ble_eq_true rfl) rfl w_1019 dX11_replace_104 rfl (fun v4 _ => ?_)
    refine z_bipush (nI 32) 109 zkb_32 dX11_replace_107 rfl ?_
    refine z_aload_n 110 0 dX11_replace_109 rfl rfl ?_
    refine z_getI 113 zC11 (Nat.le_of_ble_eq_true rfl) rfl w_1021 dX11_replace_110 rfl (fun v5 _ => ?_)
    refine z_imul 114 dX11_replace_113 rfl ?_
    refine z_iload_n 115 2 dX11_replace_114 rfl rfl ?_
    refine z_iadd 116 dX11_replace_115 rfl ?_
    refine z_aload_n 117 0 dX11_replace_116 rfl rfl ?_
    refine z_getR 120 zC11 (Nat.le_of_ble_eq_true rfl) rfl w_1017 dX11_replace_117 rfl (fun v6 _ => ?_)
    refine z_bipush (nI 32) 122 zkb_32 dX11_replace_120 rfl ?_
    refine z_iload_n 123 1 dX11_replace_122 rfl rfl ?_
    refine z_imul 124 dX11_replace_123 rfl ?_
    refine z_iload_n 125 2 dX11_replace_124 rfl rfl ?_
    refine z_iadd 126 dX11_replace_125 rfl ?_
    refine z_iaload 127 dX11_replace_126 rfl (fun v7 _ => ?_)
    refine z_iastore 128 dX11_replace_127 rfl (fun h8 _ => ?_)
    refine z_aload_n 129 0 dX11_replace_128 rfl rfl ?_
    refine z_getR 132 zC11 (Nat.le_of_ble_eq_true rfl) rfl w_1017 dX11_replace_129 rfl (fun v9 _ => ?_)
    refine z_bipush (nI 32) 134 zkb_32 dX11_replace_132 rfl ?_
    refine z_iload_n 135 1 dX11_replace_134 rfl rfl ?_
    refine z_imul 136 dX11_replace_135 rfl ?_
    refine z_iload_n 137 2 dX11_replace_136 rfl rfl ?_
    refine z_iadd 138 dX11_replace_137 rfl ?_
    refine z_aload_n 139 0 dX11_replace_138 rfl rfl ?_
    refine z_getR 142 zC11 (Nat.le_of_ble_eq_true rfl) rfl w_1018 dX11_replace_139 rfl (fun v10 _ => ?_)
    refine z_iload_n 143 2 dX11_replace_142 rfl rfl ?_
    refine z_iaload 144 dX11_replace_143 rfl (fun v11 _ => ?_)
    refine z_iastore 145 dX11_replace_144 rfl (fun h12 _ => ?_)
    refine z_iinc (lv2 := [(2, .int (x2 + (nI 1))), (0, .ref (b0 + x0)), (1, .int x1)]) (nI 1) 148 2 dX11_replace_145 rfl rfl zki_1 (Nat.le_of_ble_eq_true rfl) rfl ?_
    refine z_goto 97 dX11_replace_148 (by decide) ?_
    exact z_sub [1, 2, 0] rfl (hself97 (x2 + (nI 1)) h12)
theorem BX11_replace_97 (b0 : Nat) (x0 : Nat) (x1 : Int32) (n : Nat) (x2 : Int32) (h : ZH) : Zr zv b0 YX11_replace 1 97 [(0, .ref (b0 + x0)), (1, .int x1), (2, .int x2)] [] h (zloop (lX11_replace_97 x0 x1) n (x2, h)) :=
  zloop_Zr (fun s => [(0, .ref (b0 + x0)), (1, .int x1), (2, .int s.1)]) (fun _ => []) (fun s => s.2) (lX11_replace_97 x0 x1) (fun self hs s => KX11_replace_97 b0 x0 x1 self (fun y2 hh => hs (y2, hh)) s.1 s.2) n (x2, h)
def bX11_replace_85 (x0 : Nat) (x1 : Int32) (h : ZH) : Option (ZH) :=
  (gR h 11 x0 3).bind fun v1 =>
  (gI h 11 x0 4).bind fun v2 =>
  (sI h 14 v1 v2 x1).bind fun h3 =>
  zloop (lX11_replace_97 x0 x1) zfu ((nI 0), h3)
theorem BX11_replace_85 (b0 : Nat) (x0 : Nat) (x1 : Int32) (h : ZH) : Zr zv b0 YX11_replace 1 85 [(0, .ref (b0 + x0)), (1, .int x1)] [] h (bX11_replace_85 x0 x1 h) := by
  unfold bX11_replace_85
  refine z_aload_n 86 0 dX11_replace_85 rfl rfl ?_
  refine z_getR 89 zC11 (Nat.le_of_ble_eq_true rfl) rfl w_1020 dX11_replace_86 rfl (fun v1 _ => ?_)
  refine z_aload_n 90 0 dX11_replace_89 rfl rfl ?_
  refine z_getI 93 zC11 (Nat.le_of_ble_eq_true rfl) rfl w_1021 dX11_replace_90 rfl (fun v2 _ => ?_)
  refine z_iload_n 94 1 dX11_replace_93 rfl rfl ?_
  refine z_iastore 95 dX11_replace_94 rfl (fun h3 _ => ?_)
  refine z_iconst (nI 0) 96 zki_0 dX11_replace_95 rfl ?_
  refine z_istore_n (lv2 := [(2, .int (nI 0)), (0, .ref (b0 + x0)), (1, .int x1)]) 97 dX11_replace_96 rfl (Nat.le_of_ble_eq_true rfl) rfl ?_
  exact z_sub [1, 2, 0] rfl (BX11_replace_97 b0 x0 x1 zfu (nI 0) h3)
def kX11_replace_33 (self11 : Int32 × ZH → Option (ZH)) (x0 : Nat) (x1 : Int32) (x2 : Int32) (self33 : Int32 × ZH → Option (ZH)) (x3 : Int32) (h : ZH) : Option (ZH) :=
  if (nI 32) ≤ x3 then (self11 ((x2 + (nI 1)), h)) else
  ((gR h 11 x0 2).bind fun v2 =>
  (gR h 11 x0 2).bind fun v3 =>
  (lI h 14 v3 (((nI 32) * x2) + x3)).bind fun v4 =>
  (sI h 14 v2 (((nI 32) * (x2 - (nI 1))) + x3) v4).bind fun h5 =>
  self33 ((x3 + (nI 1)), h5))
def lX11_replace_33 (self11 : Int32 × ZH → Option (ZH)) (x0 : Nat) (x1 : Int32) (x2 : Int32) : (Int32 × ZH → Option (ZH)) → Int32 × ZH → Option (ZH) := fun self s => kX11_replace_33 self11 x0 x1 x2 self s.1 s.2
theorem KX11_replace_33 (b0 : Nat) (self11 : Int32 × ZH → Option (ZH)) (x0 : Nat) (x1 : Int32) (x2 : Int32) (hself11 : ∀ (y2 : Int32) (hh : ZH), Zr zv b0 YX11_replace 1 11 [(0, .ref (b0 + x0)), (1, .int x1), (2, .int y2)] [] hh (self11 (y2, hh))) (self33 : Int32 × ZH → Option (ZH)) (hself33 : ∀ (y3 : Int32) (hh : ZH), Zr zv b0 YX11_replace 1 33 [(0, .ref (b0 + x0)), (1, .int x1), (2, .int x2), (3, .int y3)] [] hh (self33 (y3, hh))) (x3 : Int32) (h : ZH) : Zr zv b0 YX11_replace 1 33 [(0, .ref (b0 + x0)), (1, .int x1), (2, .int x2), (3, .int x3)] [] h (kX11_replace_33 self11 x0 x1 x2 self33 x3 h) := by
  unfold kX11_replace_33
  refine z_iload_n 34 3 dX11_replace_33 rfl rfl ?_
  refine z_bipush (nI 32) 36 zkb_32 dX11_replace_34 rfl ?_
  refine z_icmp_ge 69 39 dX11_replace_36 (by decide) rfl (fun c1 => ?_) (fun c1 => ?_)
  · refine z_iinc (lv2 := [(2, .int (x2 + (nI 1))), (0, .ref (b0 + x0)), (1, .int x1), (3, .int x3)]) (nI 1) 72 2 dX11_replace_69 rfl rfl zki_1 (Nat.le_of_ble_eq_true rfl) rfl ?_
    refine z_goto 11 dX11_replace_72 (by decide) ?_
    exact z_sub [1, 2, 0] rfl (hself11 (x2 + (nI 1)) h)
  · refine z_aload_n 40 0 dX11_replace_39 rfl rfl ?_
    refine z_getR 43 zC11 (Nat.le_of_ble_eq_true rfl) rfl w_1019 dX11_replace_40 rfl (fun v2 _ => ?_)
    refine z_bipush (nI 32) 45 zkb_32 dX11_replace_43 rfl ?_
    refine z_iload_n 46 2 dX11_replace_45 rfl rfl ?_
    refine z_iconst (nI 1) 47 zki_1 dX11_replace_46 rfl ?_
    refine z_isub 48 dX11_replace_47 rfl ?_
    refine z_imul 49 dX11_replace_48 rfl ?_
    refine z_iload_n 50 3 dX11_replace_49 rfl rfl ?_
    refine z_iadd 51 dX11_replace_50 rfl ?_
    refine z_aload_n 52 0 dX11_replace_51 rfl rfl ?_
    refine z_getR 55 zC11 (Nat.le_of_ble_eq_true rfl) rfl w_1019 dX11_replace_52 rfl (fun v3 _ => ?_)
    refine z_bipush (nI 32) 57 zkb_32 dX11_replace_55 rfl ?_
    refine z_iload_n 58 2 dX11_replace_57 rfl rfl ?_
    refine z_imul 59 dX11_replace_58 rfl ?_
    refine z_iload_n 60 3 dX11_replace_59 rfl rfl ?_
    refine z_iadd 61 dX11_replace_60 rfl ?_
    refine z_iaload 62 dX11_replace_61 rfl (fun v4 _ => ?_)
    refine z_iastore 63 dX11_replace_62 rfl (fun h5 _ => ?_)
    refine z_iinc (lv2 := [(3, .int (x3 + (nI 1))), (0, .ref (b0 + x0)), (1, .int x1), (2, .int x2)]) (nI 1) 66 3 dX11_replace_63 rfl rfl zki_1 (Nat.le_of_ble_eq_true rfl) rfl ?_
    refine z_goto 33 dX11_replace_66 (by decide) ?_
    exact z_sub [1, 2, 3, 0] rfl (hself33 (x3 + (nI 1)) h5)
theorem BX11_replace_33 (b0 : Nat) (self11 : Int32 × ZH → Option (ZH)) (x0 : Nat) (x1 : Int32) (x2 : Int32) (hself11 : ∀ (y2 : Int32) (hh : ZH), Zr zv b0 YX11_replace 1 11 [(0, .ref (b0 + x0)), (1, .int x1), (2, .int y2)] [] hh (self11 (y2, hh))) (n : Nat) (x3 : Int32) (h : ZH) : Zr zv b0 YX11_replace 1 33 [(0, .ref (b0 + x0)), (1, .int x1), (2, .int x2), (3, .int x3)] [] h (zloop (lX11_replace_33 self11 x0 x1 x2) n (x3, h)) :=
  zloop_Zr (fun s => [(0, .ref (b0 + x0)), (1, .int x1), (2, .int x2), (3, .int s.1)]) (fun _ => []) (fun s => s.2) (lX11_replace_33 self11 x0 x1 x2) (fun self hs s => KX11_replace_33 b0 self11 x0 x1 x2 hself11 self (fun y3 hh => hs (y3, hh)) s.1 s.2) n (x3, h)
def kX11_replace_11 (x0 : Nat) (x1 : Int32) (self11 : Int32 × ZH → Option (ZH)) (x2 : Int32) (h : ZH) : Option (ZH) :=
  if (nI 10) ≤ x2 then ((gI h 11 x0 4).bind fun v2 =>
  (pI h 11 x0 4 (v2 - (nI 1))).bind fun h3 =>
  bX11_replace_85 x0 x1 h3) else
  ((gR h 11 x0 3).bind fun v4 =>
  (gR h 11 x0 3).bind fun v5 =>
  (lI h 14 v5 x2).bind fun v6 =>
  (sI h 14 v4 (x2 - (nI 1)) v6).bind fun h7 =>
  zloop (lX11_replace_33 self11 x0 x1 x2) zfu ((nI 0), h7))
def lX11_replace_11 (x0 : Nat) (x1 : Int32) : (Int32 × ZH → Option (ZH)) → Int32 × ZH → Option (ZH) := fun self s => kX11_replace_11 x0 x1 self s.1 s.2
theorem KX11_replace_11 (b0 : Nat) (x0 : Nat) (x1 : Int32) (self11 : Int32 × ZH → Option (ZH)) (hself11 : ∀ (y2 : Int32) (hh : ZH), Zr zv b0 YX11_replace 1 11 [(0, .ref (b0 + x0)), (1, .int x1), (2, .int y2)] [] hh (self11 (y2, hh))) (x2 : Int32) (h : ZH) : Zr zv b0 YX11_replace 1 11 [(0, .ref (b0 + x0)), (1, .int x1), (2, .int x2)] [] h (kX11_replace_11 x0 x1 self11 x2 h) := by
  unfold kX11_replace_11
  refine z_iload_n 12 2 dX11_replace_11 rfl rfl ?_
  refine z_bipush (nI 10) 14 zkb_10 dX11_replace_12 rfl ?_
  refine z_icmp_ge 75 17 dX11_replace_14 (by decide) rfl (fun c1 => ?_) (fun c1 => ?_)
  · refine z_aload_n 76 0 dX11_replace_75 rfl rfl ?_
    refine z_dup 77 rfl dX11_replace_76 rfl ?_
    refine z_getI 80 zC11 (Nat.le_of_ble_eq_true rfl) rfl w_1021 dX11_replace_77 rfl (fun v2 _ => ?_)
    refine z_iconst (nI 1) 81 zki_1 dX11_replace_80 rfl ?_
    refine z_isub 82 dX11_replace_81 rfl ?_
    refine z_putI 85 zC11 (Nat.le_of_ble_eq_true rfl) rfl rfl rfl w_1021 dX11_replace_82 rfl (fun h3 _ => ?_)
    exact z_sub [0, 1] rfl (BX11_replace_85 b0 x0 x1 h3 )
  · refine z_aload_n 18 0 dX11_replace_17 rfl rfl ?_
    refine z_getR 21 zC11 (Nat.le_of_ble_eq_true rfl) rfl w_1020 dX11_replace_18 rfl (fun v4 _ => ?_)
    refine z_iload_n 22 2 dX11_replace_21 rfl rfl ?_
    refine z_iconst (nI 1) 23 zki_1 dX11_replace_22 rfl ?_
    refine z_isub 24 dX11_replace_23 rfl ?_
    refine z_aload_n 25 0 dX11_replace_24 rfl rfl ?_
    refine z_getR 28 zC11 (Nat.le_of_ble_eq_true rfl) rfl w_1020 dX11_replace_25 rfl (fun v5 _ => ?_)
    refine z_iload_n 29 2 dX11_replace_28 rfl rfl ?_
    refine z_iaload 30 dX11_replace_29 rfl (fun v6 _ => ?_)
    refine z_iastore 31 dX11_replace_30 rfl (fun h7 _ => ?_)
    refine z_iconst (nI 0) 32 zki_0 dX11_replace_31 rfl ?_
    refine z_istore_n (lv2 := [(3, .int (nI 0)), (0, .ref (b0 + x0)), (1, .int x1), (2, .int x2)]) 33 dX11_replace_32 rfl (Nat.le_of_ble_eq_true rfl) rfl ?_
    exact z_sub [1, 2, 3, 0] rfl (BX11_replace_33 b0 self11 x0 x1 x2 hself11 zfu (nI 0) h7)
theorem BX11_replace_11 (b0 : Nat) (x0 : Nat) (x1 : Int32) (n : Nat) (x2 : Int32) (h : ZH) : Zr zv b0 YX11_replace 1 11 [(0, .ref (b0 + x0)), (1, .int x1), (2, .int x2)] [] h (zloop (lX11_replace_11 x0 x1) n (x2, h)) :=
  zloop_Zr (fun s => [(0, .ref (b0 + x0)), (1, .int x1), (2, .int s.1)]) (fun _ => []) (fun s => s.2) (lX11_replace_11 x0 x1) (fun self hs s => KX11_replace_11 b0 x0 x1 self (fun y2 hh => hs (y2, hh)) s.1 s.2) n (x2, h)
def fX11_replace (x0 : Nat) (x1 : Int32) (h : ZH) : Option (ZH) :=
  if x0 < zn h ∧ zK h x0 = 11 then ((gI h 11 x0 4).bind fun v1 =>
  if v1 = (nI 10) then (zloop (lX11_replace_11 x0 x1) zfu ((nI 1), h)) else
  (bX11_replace_85 x0 x1 h)) else none
theorem kX11_replace {x0 : Nat} {x1 : Int32} {h : ZH} {x : ZH} (e : fX11_replace x0 x1 h = some x) : x0 < zn h ∧ zK h x0 = 11 := by
  unfold fX11_replace at e
  exact zguard e
theorem mX11_replace (b0 : Nat) (x0 : Nat) (x1 : Int32) (h : ZH) : ZM zv b0 YX11_replace 1 [.ref (b0 + x0), .int x1] h (fX11_replace x0 x1 h) := by
  unfold fX11_replace
  refine ZM.of (by decide) rfl (Nat.le_of_ble_eq_true rfl) (fun _ => trivial) ?_
  refine z_sub (lv2 := [(0, .ref (b0 + x0)), (1, .int x1)]) [0, 1] rfl ?_
  refine z_guard (fun _ => ?_)
  refine z_aload_n 1 0 dX11_replace_0 rfl rfl ?_
  refine z_getI 4 zC11 (Nat.le_of_ble_eq_true rfl) rfl w_1021 dX11_replace_1 rfl (fun v1 _ => ?_)
  refine z_bipush (nI 10) 6 zkb_10 dX11_replace_4 rfl ?_
  refine z_icmp_ne 85 9 dX11_replace_6 (by decide) rfl (fun c2 => ?_) (fun c2 => ?_)
  · exact z_sub [0, 1] rfl (BX11_replace_85 b0 x0 x1 h )
  · refine z_iconst (nI 1) 10 zki_1 dX11_replace_9 rfl ?_
    refine z_istore_n (lv2 := [(2, .int (nI 1)), (0, .ref (b0 + x0)), (1, .int x1)]) 11 dX11_replace_10 rfl (Nat.le_of_ble_eq_true rfl) rfl ?_
    exact z_sub [1, 2, 0] rfl (BX11_replace_11 b0 x0 x1 zfu (nI 1) h)
-- X11_addEdge
def bX11_addEdge_29 (h : ZH) : Option (Int32 × ZH) :=
  some ((-2 : Int32), h)
theorem BX11_addEdge_29 (b0 : Nat) (h : ZH) : Zr zi b0 YX11_addEdge 3 29 [] [] h (bX11_addEdge_29 h) := by
  unfold bX11_addEdge_29
  refine z_bipush (-2 : Int32) 31 zkb_m2 dX11_addEdge_29 rfl ?_
  exact z_ireturn dX11_addEdge_31 rfl
def fX11_addEdge (x0 : Nat) (x1 : Int32) (x2 : Int32) (x3 : Int32) (x4 : Int32) (h : ZH) : Option (Int32 × ZH) :=
  if x0 < zn h ∧ zK h x0 = 11 then ((fX11_isSlot x1 h).bind fun q1 =>
  if q1.1 = 0 then (bX11_addEdge_29 q1.2) else
  ((fX11_isVertex x2 q1.2).bind fun q3 =>
  if q3.1 = 0 then (bX11_addEdge_29 q3.2) else
  ((fX11_isLetter x3 q3.2).bind fun q5 =>
  if q5.1 = 0 then (bX11_addEdge_29 q5.2) else
  ((fX11_isVertex x4 q5.2).bind fun q7 =>
  if q7.1 = 0 then (bX11_addEdge_29 q7.2) else
  ((fX11_make x0 x1 q7.2).bind fun h9 =>
  (gR h9 11 x0 1).bind fun v10 =>
  zl (((nI 4) * x2) + x3) fun v11 =>
  (lI h9 14 v10 v11).bind fun v12 =>
  (sI h9 14 v10 v11 (v12 ||| (jshl (nI 1) x4))).bind fun h13 =>
  (fX11_replace x0 x1 h13).bind fun h14 =>
  (fX11_edgesOf x0 x1 h14).bind fun q15 =>
  some (q15.1, q15.2)))))) else none
theorem kX11_addEdge {x0 : Nat} {x1 : Int32} {x2 : Int32} {x3 : Int32} {x4 : Int32} {h : ZH} {x : Int32 × ZH} (e : fX11_addEdge x0 x1 x2 x3 x4 h = some x) : x0 < zn h ∧ zK h x0 = 11 := by
  unfold fX11_addEdge at e
  exact zguard e
theorem mX11_addEdge (b0 : Nat) (x0 : Nat) (x1 : Int32) (x2 : Int32) (x3 : Int32) (x4 : Int32) (h : ZH) : ZM zi b0 YX11_addEdge 3 [.ref (b0 + x0), .int x1, .int x2, .int x3, .int x4] h (fX11_addEdge x0 x1 x2 x3 x4 h) := by
  unfold fX11_addEdge
  refine ZM.of (by decide) rfl (Nat.le_of_ble_eq_true rfl) (fun _ => trivial) ?_
  refine z_sub (lv2 := [(0, .ref (b0 + x0)), (1, .int x1), (2, .int x2), (3, .int x3), (4, .int x4)]) [0, 1, 2, 3, 4] rfl ?_
  refine z_guard (fun _ => ?_)
  refine z_iload_n 1 1 dX11_addEdge_0 rfl rfl ?_
  refine z_callSi 4 (mX11_isSlot b0 x1 h) zyX11_isSlot rfl w_1154 wt_yX11_isSlot (Nat.le_of_ble_eq_true rfl) rfl (Nat.le_of_ble_eq_true rfl) dX11_addEdge_1 rfl (fun q1 => ?_)
  refine z_if_eq 29 7 dX11_addEdge_4 (by decide) rfl (fun c2 => ?_) (fun c2 => ?_)
  · exact z_sub [] rfl (BX11_addEdge_29 b0 q1.2 )
  · refine z_iload_n 8 2 dX11_addEdge_7 rfl rfl ?_
    refine z_callSi 11 (mX11_isVertex b0 x2 q1.2) zyX11_isVertex rfl w_1160 wt_yX11_isVertex (Nat.le_of_ble_eq_true rfl) rfl (Nat.le_of_ble_eq_true rfl) dX11_addEdge_8 rfl (fun q3 => ?_)
    refine z_if_eq 29 14 dX11_addEdge_11 (by decide) rfl (fun c4 => ?_) (fun c4 => ?_)
    · exact z_sub [] rfl (BX11_addEdge_29 b0 q3.2 )
    · refine z_iload_n 15 3 dX11_addEdge_14 rfl rfl ?_
      refine z_callSi 18 (mX11_isLetter b0 x3 q3.2) zyX11_isLetter rfl w_1163 wt_yX11_isLetter (Nat.le_of_ble_eq_true rfl) rfl (Nat.le_of_ble_eq_true rfl) dX11_addEdge_15 rfl (fun q5 => ?_)
      refine z_if_eq 29 21 dX11_addEdge_18 (by decide) rfl (fun c6 => ?_) (fun c6 => ?_)
      · exact z_sub [] rfl (BX11_addEdge_29 b0 q5.2 )
      · refine z_iload 23 4 dX11_addEdge_21 rfl rfl ?_
        refine z_callSi 26 (mX11_isVertex b0 x4 q5.2) zyX11_isVertex rfl w_1160 wt_yX11_isVertex (Nat.le_of_ble_eq_true rfl) rfl (Nat.le_of_ble_eq_true rfl) dX11_addEdge_23 rfl (fun q7 => ?_)
        refine z_if_ne 32 29 dX11_addEdge_26 (by decide) rfl (fun c8 => ?_) (fun c8 => ?_)
        · refine z_aload_n 33 0 dX11_addEdge_32 rfl rfl ?_
          refine z_iload_n 34 1 dX11_addEdge_33 rfl rfl ?_
          refine z_callVv 37 (mX11_make b0 x0 x1 q7.2) zyX11_make rfl w_1166 (ci := 11) rfl (Nat.le_of_ble_eq_true rfl) (fun _ e9 => kX11_make e9) wm_yX11_make ws_yX11_make (Nat.le_of_ble_eq_true rfl) rfl (Nat.le_of_ble_eq_true rfl) dX11_addEdge_34 rfl (fun h9 => ?_)
          refine z_aload_n 38 0 dX11_addEdge_37 rfl rfl ?_
          refine z_getR 41 zC11 (Nat.le_of_ble_eq_true rfl) rfl w_1018 dX11_addEdge_38 rfl (fun v10 _ => ?_)
          refine z_iconst (nI 4) 42 zki_4 dX11_addEdge_41 rfl ?_
          refine z_iload_n 43 2 dX11_addEdge_42 rfl rfl ?_
          refine z_imul 44 dX11_addEdge_43 rfl ?_
          refine z_iload_n 45 3 dX11_addEdge_44 rfl rfl ?_
          refine z_iadd 46 dX11_addEdge_45 rfl ?_
          refine z_letI (fun v11 _ => ?_)
          refine z_dup2 47 rfl rfl dX11_addEdge_46 rfl ?_
          refine z_iaload 48 dX11_addEdge_47 rfl (fun v12 _ => ?_)
          refine z_iconst (nI 1) 49 zki_1 dX11_addEdge_48 rfl ?_
          refine z_iload 51 4 dX11_addEdge_49 rfl rfl ?_
          refine z_ishl 52 dX11_addEdge_51 rfl ?_
          refine z_ior 53 dX11_addEdge_52 rfl ?_
          refine z_iastore 54 dX11_addEdge_53 rfl (fun h13 _ => ?_)
          refine z_aload_n 55 0 dX11_addEdge_54 rfl rfl ?_
          refine z_iload_n 56 1 dX11_addEdge_55 rfl rfl ?_
          refine z_callVv 59 (mX11_replace b0 x0 x1 h13) zyX11_replace rfl w_1170 (ci := 11) rfl (Nat.le_of_ble_eq_true rfl) (fun _ e9 => kX11_replace e9) wm_yX11_replace ws_yX11_replace (Nat.le_of_ble_eq_true rfl) rfl (Nat.le_of_ble_eq_true rfl) dX11_addEdge_56 rfl (fun h14 => ?_)
          refine z_aload_n 60 0 dX11_addEdge_59 rfl rfl ?_
          refine z_iload_n 61 1 dX11_addEdge_60 rfl rfl ?_
          refine z_callVi 64 (mX11_edgesOf b0 x0 x1 h14) zyX11_edgesOf rfl w_1174 (ci := 11) rfl (Nat.le_of_ble_eq_true rfl) (fun _ e9 => kX11_edgesOf e9) wm_yX11_edgesOf ws_yX11_edgesOf (Nat.le_of_ble_eq_true rfl) rfl (Nat.le_of_ble_eq_true rfl) dX11_addEdge_61 rfl (fun q15 => ?_)
          exact z_ireturn dX11_addEdge_64 rfl
        · exact z_sub [] rfl (BX11_addEdge_29 b0 q7.2 )
-- X11_removeEdge
def bX11_removeEdge_29 (h : ZH) : Option (Int32 × ZH) :=
  some ((-2 : Int32), h)
theorem BX11_removeEdge_29 (b0 : Nat) (h : ZH) : Zr zi b0 YX11_removeEdge 3 29 [] [] h (bX11_removeEdge_29 h) := by
  unfold bX11_removeEdge_29
  refine z_bipush (-2 : Int32) 31 zkb_m2 dX11_removeEdge_29 rfl ?_
  exact z_ireturn dX11_removeEdge_31 rfl
def fX11_removeEdge (x0 : Nat) (x1 : Int32) (x2 : Int32) (x3 : Int32) (x4 : Int32) (h : ZH) : Option (Int32 × ZH) :=
  if x0 < zn h ∧ zK h x0 = 11 then ((fX11_isSlot x1 h).bind fun q1 =>
  if q1.1 = 0 then (bX11_removeEdge_29 q1.2) else
  ((fX11_isVertex x2 q1.2).bind fun q3 =>
  if q3.1 = 0 then (bX11_removeEdge_29 q3.2) else
  ((fX11_isLetter x3 q3.2).bind fun q5 =>
  if q5.1 = 0 then (bX11_removeEdge_29 q5.2) else
  ((fX11_isVertex x4 q5.2).bind fun q7 =>
  if q7.1 = 0 then (bX11_removeEdge_29 q7.2) else
  ((fX11_to x0 x1 x2 x3 q7.2).bind fun q9 =>
  if ((jshr q9.1 x4) &&& (nI 1)) = 0 then (some ((-1 : Int32), q9.2)) else
  ((fX11_make x0 x1 q9.2).bind fun h11 =>
  (gR h11 11 x0 1).bind fun v12 =>
  zl (((nI 4) * x2) + x3) fun v13 =>
  (lI h11 14 v12 v13).bind fun v14 =>
  (sI h11 14 v12 v13 (v14 &&& ((jshl (nI 1) x4) ^^^ (-1 : Int32)))).bind fun h15 =>
  (fX11_replace x0 x1 h15).bind fun h16 =>
  (fX11_edgesOf x0 x1 h16).bind fun q17 =>
  some (q17.1, q17.2))))))) else none
theorem kX11_removeEdge {x0 : Nat} {x1 : Int32} {x2 : Int32} {x3 : Int32} {x4 : Int32} {h : ZH} {x : Int32 × ZH} (e : fX11_removeEdge x0 x1 x2 x3 x4 h = some x) : x0 < zn h ∧ zK h x0 = 11 := by
  unfold fX11_removeEdge at e
  exact zguard e
theorem mX11_removeEdge (b0 : Nat) (x0 : Nat) (x1 : Int32) (x2 : Int32) (x3 : Int32) (x4 : Int32) (h : ZH) : ZM zi b0 YX11_removeEdge 3 [.ref (b0 + x0), .int x1, .int x2, .int x3, .int x4] h (fX11_removeEdge x0 x1 x2 x3 x4 h) := by
  unfold fX11_removeEdge
  refine ZM.of (by decide) rfl (Nat.le_of_ble_eq_true rfl) (fun _ => trivial) ?_
  refine z_sub (lv2 := [(0, .ref (b0 + x0)), (1, .int x1), (2, .int x2), (3, .int x3), (4, .int x4)]) [0, 1, 2, 3, 4] rfl ?_
  refine z_guard (fun _ => ?_)
  refine z_iload_n 1 1 dX11_removeEdge_0 rfl rfl ?_
  refine z_callSi 4 (mX11_isSlot b0 x1 h) zyX11_isSlot rfl w_1154 wt_yX11_isSlot (Nat.le_of_ble_eq_true rfl) rfl (Nat.le_of_ble_eq_true rfl) dX11_removeEdge_1 rfl (fun q1 => ?_)
  refine z_if_eq 29 7 dX11_removeEdge_4 (by decide) rfl (fun c2 => ?_) (fun c2 => ?_)
  · exact z_sub [] rfl (BX11_removeEdge_29 b0 q1.2 )
  · refine z_iload_n 8 2 dX11_removeEdge_7 rfl rfl ?_
    refine z_callSi 11 (mX11_isVertex b0 x2 q1.2) zyX11_isVertex rfl w_1160 wt_yX11_isVertex (Nat.le_of_ble_eq_true rfl) rfl (Nat.le_of_ble_eq_true rfl) dX11_removeEdge_8 rfl (fun q3 => ?_)
    refine z_if_eq 29 14 dX11_removeEdge_11 (by decide) rfl (fun c4 => ?_) (fun c4 => ?_)
    · exact z_sub [] rfl (BX11_removeEdge_29 b0 q3.2 )
    · refine z_iload_n 15 3 dX11_removeEdge_14 rfl rfl ?_
      refine z_callSi 18 (mX11_isLetter b0 x3 q3.2) zyX11_isLetter rfl w_1163 wt_yX11_isLetter (Nat.le_of_ble_eq_true rfl) rfl (Nat.le_of_ble_eq_true rfl) dX11_removeEdge_15 rfl (fun q5 => ?_)
      refine z_if_eq 29 21 dX11_removeEdge_18 (by decide) rfl (fun c6 => ?_) (fun c6 => ?_)
      · exact z_sub [] rfl (BX11_removeEdge_29 b0 q5.2 )
      · refine z_iload 23 4 dX11_removeEdge_21 rfl rfl ?_
        refine z_callSi 26 (mX11_isVertex b0 x4 q5.2) zyX11_isVertex rfl w_1160 wt_yX11_isVertex (Nat.le_of_ble_eq_true rfl) rfl (Nat.le_of_ble_eq_true rfl) dX11_removeEdge_23 rfl (fun q7 => ?_)
        refine z_if_ne 32 29 dX11_removeEdge_26 (by decide) rfl (fun c8 => ?_) (fun c8 => ?_)
        · refine z_aload_n 33 0 dX11_removeEdge_32 rfl rfl ?_
          refine z_iload_n 34 1 dX11_removeEdge_33 rfl rfl ?_
          refine z_iload_n 35 2 dX11_removeEdge_34 rfl rfl ?_
          refine z_iload_n 36 3 dX11_removeEdge_35 rfl rfl ?_
          refine z_callVi 39 (mX11_to b0 x0 x1 x2 x3 q7.2) zyX11_to rfl w_1183 (ci := 11) rfl (Nat.le_of_ble_eq_true rfl) (fun _ e9 => kX11_to e9) wm_yX11_to ws_yX11_to (Nat.le_of_ble_eq_true rfl) rfl (Nat.le_of_ble_eq_true rfl) dX11_removeEdge_36 rfl (fun q9 => ?_)
          refine z_iload 41 4 dX11_removeEdge_39 rfl rfl ?_
          refine z_ishr 42 dX11_removeEdge_41 rfl ?_
          refine z_iconst (nI 1) 43 zki_1 dX11_removeEdge_42 rfl ?_
          refine z_iand 44 dX11_removeEdge_43 rfl ?_
          refine z_if_ne 49 47 dX11_removeEdge_44 (by decide) rfl (fun c10 => ?_) (fun c10 => ?_)
          · refine z_aload_n 50 0 dX11_removeEdge_49 rfl rfl ?_
            refine z_iload_n 51 1 dX11_removeEdge_50 rfl rfl ?_
            refine z_callVv 54 (mX11_make b0 x0 x1 q9.2) zyX11_make rfl w_1166 (ci := 11) rfl (Nat.le_of_ble_eq_true rfl) (fun _ e9 => kX11_make e9) wm_yX11_make ws_yX11_make (Nat.le_of_ble_eq_true rfl) rfl (Nat.le_of_ble_eq_true rfl) dX11_removeEdge_51 rfl (fun h11 => ?_)
            refine z_aload_n 55 0 dX11_removeEdge_54 rfl rfl ?_
            refine z_getR 58 zC11 (Nat.le_of_ble_eq_true rfl) rfl w_1018 dX11_removeEdge_55 rfl (fun v12 _ => ?_)
            refine z_iconst (nI 4) 59 zki_4 dX11_removeEdge_58 rfl ?_
            refine z_iload_n 60 2 dX11_removeEdge_59 rfl rfl ?_
            refine z_imul 61 dX11_removeEdge_60 rfl ?_
            refine z_iload_n 62 3 dX11_removeEdge_61 rfl rfl ?_
            refine z_iadd 63 dX11_removeEdge_62 rfl ?_
            refine z_letI (fun v13 _ => ?_)
            refine z_dup2 64 rfl rfl dX11_removeEdge_63 rfl ?_
            refine z_iaload 65 dX11_removeEdge_64 rfl (fun v14 _ => ?_)
            refine z_iconst (nI 1) 66 zki_1 dX11_removeEdge_65 rfl ?_
            refine z_iload 68 4 dX11_removeEdge_66 rfl rfl ?_
            refine z_ishl 69 dX11_removeEdge_68 rfl ?_
            refine z_iconst (-1 : Int32) 70 zki_m1 dX11_removeEdge_69 rfl ?_
            refine z_ixor 71 dX11_removeEdge_70 rfl ?_
            refine z_iand 72 dX11_removeEdge_71 rfl ?_
            refine z_iastore 73 dX11_removeEdge_72 rfl (fun h15 _ => ?_)
            refine z_aload_n 74 0 dX11_removeEdge_73 rfl rfl ?_
            refine z_iload_n 75 1 dX11_removeEdge_74 rfl rfl ?_
            refine z_callVv 78 (mX11_replace b0 x0 x1 h15) zyX11_replace rfl w_1170 (ci := 11) rfl (Nat.le_of_ble_eq_true rfl) (fun _ e9 => kX11_replace e9) wm_yX11_replace ws_yX11_replace (Nat.le_of_ble_eq_true rfl) rfl (Nat.le_of_ble_eq_true rfl) dX11_removeEdge_75 rfl (fun h16 => ?_)
            refine z_aload_n 79 0 dX11_removeEdge_78 rfl rfl ?_
            refine z_iload_n 80 1 dX11_removeEdge_79 rfl rfl ?_
            refine z_callVi 83 (mX11_edgesOf b0 x0 x1 h16) zyX11_edgesOf rfl w_1174 (ci := 11) rfl (Nat.le_of_ble_eq_true rfl) (fun _ e9 => kX11_edgesOf e9) wm_yX11_edgesOf ws_yX11_edgesOf (Nat.le_of_ble_eq_true rfl) rfl (Nat.le_of_ble_eq_true rfl) dX11_removeEdge_80 rfl (fun q17 => ?_)
            exact z_ireturn dX11_removeEdge_83 rfl
          · refine z_iconst (-1 : Int32) 48 zki_m1 dX11_removeEdge_47 rfl ?_
            exact z_ireturn dX11_removeEdge_48 rfl
        · exact z_sub [] rfl (BX11_removeEdge_29 b0 q7.2 )
-- X11_targets
def bX11_targets_33 (t0 : Int32) (h : ZH) : Option (Int32 × ZH) :=
  some (t0, h)
theorem BX11_targets_33 (b0 : Nat) (t0 : Int32) (h : ZH) : Zr zi b0 YX11_targets 3 33 [] [.int t0] h (bX11_targets_33 t0 h) := by
  unfold bX11_targets_33
  exact z_ireturn dX11_targets_33 rfl
def bX11_targets_31 (h : ZH) : Option (Int32 × ZH) :=
  bX11_targets_33 (-2 : Int32) h
theorem BX11_targets_31 (b0 : Nat) (h : ZH) : Zr zi b0 YX11_targets 3 31 [] [] h (bX11_targets_31 h) := by
  unfold bX11_targets_31
  refine z_bipush (-2 : Int32) 33 zkb_m2 dX11_targets_31 rfl ?_
  exact z_sub [] rfl (BX11_targets_33 b0 (-2 : Int32) h )
def fX11_targets (x0 : Nat) (x1 : Int32) (x2 : Int32) (x3 : Int32) (h : ZH) : Option (Int32 × ZH) :=
  if x0 < zn h ∧ zK h x0 = 11 then ((fX11_isSlot x1 h).bind fun q1 =>
  if q1.1 = 0 then (bX11_targets_31 q1.2) else
  ((fX11_isVertex x2 q1.2).bind fun q3 =>
  if q3.1 = 0 then (bX11_targets_31 q3.2) else
  ((fX11_isLetter x3 q3.2).bind fun q5 =>
  if q5.1 = 0 then (bX11_targets_31 q5.2) else
  ((fX11_to x0 x1 x2 x3 q5.2).bind fun q7 =>
  bX11_targets_33 q7.1 q7.2)))) else none
theorem kX11_targets {x0 : Nat} {x1 : Int32} {x2 : Int32} {x3 : Int32} {h : ZH} {x : Int32 × ZH} (e : fX11_targets x0 x1 x2 x3 h = some x) : x0 < zn h ∧ zK h x0 = 11 := by
  unfold fX11_targets at e
  exact zguard e
theorem mX11_targets (b0 : Nat) (x0 : Nat) (x1 : Int32) (x2 : Int32) (x3 : Int32) (h : ZH) : ZM zi b0 YX11_targets 3 [.ref (b0 + x0), .int x1, .int x2, .int x3] h (fX11_targets x0 x1 x2 x3 h) := by
  unfold fX11_targets
  refine ZM.of (by decide) rfl (Nat.le_of_ble_eq_true rfl) (fun _ => trivial) ?_
  refine z_sub (lv2 := [(0, .ref (b0 + x0)), (1, .int x1), (2, .int x2), (3, .int x3)]) [0, 1, 2, 3] rfl ?_
  refine z_guard (fun _ => ?_)
  refine z_iload_n 1 1 dX11_targets_0 rfl rfl ?_
  refine z_callSi 4 (mX11_isSlot b0 x1 h) zyX11_isSlot rfl w_1154 wt_yX11_isSlot (Nat.le_of_ble_eq_true rfl) rfl (Nat.le_of_ble_eq_true rfl) dX11_targets_1 rfl (fun q1 => ?_)
  refine z_if_eq 31 7 dX11_targets_4 (by decide) rfl (fun c2 => ?_) (fun c2 => ?_)
  · exact z_sub [] rfl (BX11_targets_31 b0 q1.2 )
  · refine z_iload_n 8 2 dX11_targets_7 rfl rfl ?_
    refine z_callSi 11 (mX11_isVertex b0 x2 q1.2) zyX11_isVertex rfl w_1160 wt_yX11_isVertex (Nat.le_of_ble_eq_true rfl) rfl (Nat.le_of_ble_eq_true rfl) dX11_targets_8 rfl (fun q3 => ?_)
    refine z_if_eq 31 14 dX11_targets_11 (by decide) rfl (fun c4 => ?_) (fun c4 => ?_)
    · exact z_sub [] rfl (BX11_targets_31 b0 q3.2 )
    · refine z_iload_n 15 3 dX11_targets_14 rfl rfl ?_
      refine z_callSi 18 (mX11_isLetter b0 x3 q3.2) zyX11_isLetter rfl w_1163 wt_yX11_isLetter (Nat.le_of_ble_eq_true rfl) rfl (Nat.le_of_ble_eq_true rfl) dX11_targets_15 rfl (fun q5 => ?_)
      refine z_if_eq 31 21 dX11_targets_18 (by decide) rfl (fun c6 => ?_) (fun c6 => ?_)
      · exact z_sub [] rfl (BX11_targets_31 b0 q5.2 )
      · refine z_aload_n 22 0 dX11_targets_21 rfl rfl ?_
        refine z_iload_n 23 1 dX11_targets_22 rfl rfl ?_
        refine z_iload_n 24 2 dX11_targets_23 rfl rfl ?_
        refine z_iload_n 25 3 dX11_targets_24 rfl rfl ?_
        refine z_callVi 28 (mX11_to b0 x0 x1 x2 x3 q5.2) zyX11_to rfl w_1183 (ci := 11) rfl (Nat.le_of_ble_eq_true rfl) (fun _ e9 => kX11_to e9) wm_yX11_to ws_yX11_to (Nat.le_of_ble_eq_true rfl) rfl (Nat.le_of_ble_eq_true rfl) dX11_targets_25 rfl (fun q7 => ?_)
        refine z_goto 33 dX11_targets_28 (by decide) ?_
        exact z_sub [] rfl (BX11_targets_33 b0 q7.1 q7.2 )
-- X11_edges
def bX11_edges_17 (t0 : Int32) (h : ZH) : Option (Int32 × ZH) :=
  some (t0, h)
theorem BX11_edges_17 (b0 : Nat) (t0 : Int32) (h : ZH) : Zr zi b0 YX11_edges 3 17 [] [.int t0] h (bX11_edges_17 t0 h) := by
  unfold bX11_edges_17
  exact z_ireturn dX11_edges_17 rfl
def fX11_edges (x0 : Nat) (x1 : Int32) (h : ZH) : Option (Int32 × ZH) :=
  if x0 < zn h ∧ zK h x0 = 11 then ((fX11_isSlot x1 h).bind fun q1 =>
  if q1.1 = 0 then (bX11_edges_17 (-2 : Int32) q1.2) else
  ((fX11_edgesOf x0 x1 q1.2).bind fun q3 =>
  bX11_edges_17 q3.1 q3.2)) else none
theorem kX11_edges {x0 : Nat} {x1 : Int32} {h : ZH} {x : Int32 × ZH} (e : fX11_edges x0 x1 h = some x) : x0 < zn h ∧ zK h x0 = 11 := by
  unfold fX11_edges at e
  exact zguard e
theorem mX11_edges (b0 : Nat) (x0 : Nat) (x1 : Int32) (h : ZH) : ZM zi b0 YX11_edges 3 [.ref (b0 + x0), .int x1] h (fX11_edges x0 x1 h) := by
  unfold fX11_edges
  refine ZM.of (by decide) rfl (Nat.le_of_ble_eq_true rfl) (fun _ => trivial) ?_
  refine z_sub (lv2 := [(0, .ref (b0 + x0)), (1, .int x1)]) [0, 1] rfl ?_
  refine z_guard (fun _ => ?_)
  refine z_iload_n 1 1 dX11_edges_0 rfl rfl ?_
  refine z_callSi 4 (mX11_isSlot b0 x1 h) zyX11_isSlot rfl w_1154 wt_yX11_isSlot (Nat.le_of_ble_eq_true rfl) rfl (Nat.le_of_ble_eq_true rfl) dX11_edges_1 rfl (fun q1 => ?_)
  refine z_if_eq 15 7 dX11_edges_4 (by decide) rfl (fun c2 => ?_) (fun c2 => ?_)
  · refine z_bipush (-2 : Int32) 17 zkb_m2 dX11_edges_15 rfl ?_
    exact z_sub [] rfl (BX11_edges_17 b0 (-2 : Int32) q1.2 )
  · refine z_aload_n 8 0 dX11_edges_7 rfl rfl ?_
    refine z_iload_n 9 1 dX11_edges_8 rfl rfl ?_
    refine z_callVi 12 (mX11_edgesOf b0 x0 x1 q1.2) zyX11_edgesOf rfl w_1174 (ci := 11) rfl (Nat.le_of_ble_eq_true rfl) (fun _ e9 => kX11_edgesOf e9) wm_yX11_edgesOf ws_yX11_edgesOf (Nat.le_of_ble_eq_true rfl) rfl (Nat.le_of_ble_eq_true rfl) dX11_edges_9 rfl (fun q3 => ?_)
    refine z_goto 17 dX11_edges_12 (by decide) ?_
    exact z_sub [] rfl (BX11_edges_17 b0 q3.1 q3.2 )
-- X11_feed
def fX11_feed (x0 : Nat) (x1 : Int32) (h : ZH) : Option (Int32 × ZH) :=
  if x0 < zn h ∧ zK h x0 = 11 then ((fX11_isIn x1 (nI 1) (nI 127) h).bind fun q1 =>
  if q1.1 = 0 then (some ((-2 : Int32), q1.2)) else
  ((gI q1.2 11 x0 8).bind fun v3 =>
  if v3 = (nI 120) then (some ((-3 : Int32), q1.2)) else
  ((gR q1.2 11 x0 7).bind fun v5 =>
  (gI q1.2 11 x0 8).bind fun v6 =>
  (sI q1.2 14 v5 v6 x1).bind fun h7 =>
  (gI h7 11 x0 8).bind fun v8 =>
  (pI h7 11 x0 8 (v8 + (nI 1))).bind fun h9 =>
  (gI h9 11 x0 8).bind fun v10 =>
  some (v10, h9)))) else none
theorem kX11_feed {x0 : Nat} {x1 : Int32} {h : ZH} {x : Int32 × ZH} (e : fX11_feed x0 x1 h = some x) : x0 < zn h ∧ zK h x0 = 11 := by
  unfold fX11_feed at e
  exact zguard e
theorem mX11_feed (b0 : Nat) (x0 : Nat) (x1 : Int32) (h : ZH) : ZM zi b0 YX11_feed 2 [.ref (b0 + x0), .int x1] h (fX11_feed x0 x1 h) := by
  unfold fX11_feed
  refine ZM.of (by decide) rfl (Nat.le_of_ble_eq_true rfl) (fun _ => trivial) ?_
  refine z_sub (lv2 := [(0, .ref (b0 + x0)), (1, .int x1)]) [0, 1] rfl ?_
  refine z_guard (fun _ => ?_)
  refine z_iload_n 1 1 dX11_feed_0 rfl rfl ?_
  refine z_iconst (nI 1) 2 zki_1 dX11_feed_1 rfl ?_
  refine z_bipush (nI 127) 4 zkb_127 dX11_feed_2 rfl ?_
  refine z_callSi 7 (mX11_isIn b0 x1 (nI 1) (nI 127) h) zyX11_isIn rfl w_1157 wt_yX11_isIn (Nat.le_of_ble_eq_true rfl) rfl (Nat.le_of_ble_eq_true rfl) dX11_feed_4 rfl (fun q1 => ?_)
  refine z_if_ne 13 10 dX11_feed_7 (by decide) rfl (fun c2 => ?_) (fun c2 => ?_)
  · refine z_aload_n 14 0 dX11_feed_13 rfl rfl ?_
    refine z_getI 17 zC11 (Nat.le_of_ble_eq_true rfl) rfl w_1025 dX11_feed_14 rfl (fun v3 _ => ?_)
    refine z_bipush (nI 120) 19 zkb_120 dX11_feed_17 rfl ?_
    refine z_icmp_ne 25 22 dX11_feed_19 (by decide) rfl (fun c4 => ?_) (fun c4 => ?_)
    · refine z_aload_n 26 0 dX11_feed_25 rfl rfl ?_
      refine z_getR 29 zC11 (Nat.le_of_ble_eq_true rfl) rfl w_1024 dX11_feed_26 rfl (fun v5 _ => ?_)
      refine z_aload_n 30 0 dX11_feed_29 rfl rfl ?_
      refine z_getI 33 zC11 (Nat.le_of_ble_eq_true rfl) rfl w_1025 dX11_feed_30 rfl (fun v6 _ => ?_)
      refine z_iload_n 34 1 dX11_feed_33 rfl rfl ?_
      refine z_iastore 35 dX11_feed_34 rfl (fun h7 _ => ?_)
      refine z_aload_n 36 0 dX11_feed_35 rfl rfl ?_
      refine z_dup 37 rfl dX11_feed_36 rfl ?_
      refine z_getI 40 zC11 (Nat.le_of_ble_eq_true rfl) rfl w_1025 dX11_feed_37 rfl (fun v8 _ => ?_)
      refine z_iconst (nI 1) 41 zki_1 dX11_feed_40 rfl ?_
      refine z_iadd 42 dX11_feed_41 rfl ?_
      refine z_putI 45 zC11 (Nat.le_of_ble_eq_true rfl) rfl rfl rfl w_1025 dX11_feed_42 rfl (fun h9 _ => ?_)
      refine z_aload_n 46 0 dX11_feed_45 rfl rfl ?_
      refine z_getI 49 zC11 (Nat.le_of_ble_eq_true rfl) rfl w_1025 dX11_feed_46 rfl (fun v10 _ => ?_)
      exact z_ireturn dX11_feed_49 rfl
    · refine z_bipush (-3 : Int32) 24 zkb_m3 dX11_feed_22 rfl ?_
      exact z_ireturn dX11_feed_24 rfl
  · refine z_bipush (-2 : Int32) 12 zkb_m2 dX11_feed_10 rfl ?_
    exact z_ireturn dX11_feed_12 rfl
-- X11_stands
def bX11_stands_43 (t0 : Int32) (h : ZH) : Option (Int32 × ZH) :=
  if t0 = 0 ∨ t0 = 1 then some (t0, h) else none
theorem BX11_stands_43 (b0 : Nat) (t0 : Int32) (h : ZH) : Zr zi b0 YX11_stands 2 43 [] [.int t0] h (bX11_stands_43 t0 h) := by
  unfold bX11_stands_43
  exact z_zreturn dX11_stands_43 rfl
def fX11_stands (x0 : Int32) (x1 : Int32) (h : ZH) : Option (Int32 × ZH) :=
  if x0 = (nI 1) then ((fX11_isIn x1 (nI 97) (nI 100) h).bind fun q5 =>
  bX11_stands_43 q5.1 q5.2) else
  (if x0 = (nI 3) then (if x1 = (nI 59) then (bX11_stands_43 (nI 1) h) else
  (bX11_stands_43 (nI 0) h)) else
  ((fX11_isIn x1 (nI 48) (nI 55) h).bind fun q3 =>
  bX11_stands_43 q3.1 q3.2))
theorem mX11_stands (b0 : Nat) (x0 : Int32) (x1 : Int32) (h : ZH) : ZM zi b0 YX11_stands 2 [.int x0, .int x1] h (fX11_stands x0 x1 h) := by
  unfold fX11_stands
  refine ZM.of (by decide) rfl (Nat.le_of_ble_eq_true rfl) (fun _ => trivial) ?_
  refine z_sub (lv2 := [(0, .int x0), (1, .int x1)]) [0, 1] rfl ?_
  refine z_iload_n 1 0 dX11_stands_0 rfl rfl ?_
  refine z_iconst (nI 1) 2 zki_1 dX11_stands_1 rfl ?_
  refine z_icmp_ne 16 5 dX11_stands_2 (by decide) rfl (fun c1 => ?_) (fun c1 => ?_)
  · refine z_iload_n 17 0 dX11_stands_16 rfl rfl ?_
    refine z_iconst (nI 3) 18 zki_3 dX11_stands_17 rfl ?_
    refine z_icmp_ne 35 21 dX11_stands_18 (by decide) rfl (fun c2 => ?_) (fun c2 => ?_)
    · refine z_iload_n 36 1 dX11_stands_35 rfl rfl ?_
      refine z_bipush (nI 48) 38 zkb_48 dX11_stands_36 rfl ?_
      refine z_bipush (nI 55) 40 zkb_55 dX11_stands_38 rfl ?_
      refine z_callSi 43 (mX11_isIn b0 x1 (nI 48) (nI 55) h) zyX11_isIn rfl w_1157 wt_yX11_isIn (Nat.le_of_ble_eq_true rfl) rfl (Nat.le_of_ble_eq_true rfl) dX11_stands_40 rfl (fun q3 => ?_)
      exact z_sub [] rfl (BX11_stands_43 b0 q3.1 q3.2 )
    · refine z_iload_n 22 1 dX11_stands_21 rfl rfl ?_
      refine z_bipush (nI 59) 24 zkb_59 dX11_stands_22 rfl ?_
      refine z_icmp_ne 31 27 dX11_stands_24 (by decide) rfl (fun c4 => ?_) (fun c4 => ?_)
      · refine z_iconst (nI 0) 32 zki_0 dX11_stands_31 rfl ?_
        refine z_goto 43 dX11_stands_32 (by decide) ?_
        exact z_sub [] rfl (BX11_stands_43 b0 (nI 0) h )
      · refine z_iconst (nI 1) 28 zki_1 dX11_stands_27 rfl ?_
        refine z_goto 43 dX11_stands_28 (by decide) ?_
        exact z_sub [] rfl (BX11_stands_43 b0 (nI 1) h )
  · refine z_iload_n 6 1 dX11_stands_5 rfl rfl ?_
    refine z_bipush (nI 97) 8 zkb_97 dX11_stands_6 rfl ?_
    refine z_bipush (nI 100) 10 zkb_100 dX11_stands_8 rfl ?_
    refine z_callSi 13 (mX11_isIn b0 x1 (nI 97) (nI 100) h) zyX11_isIn rfl w_1157 wt_yX11_isIn (Nat.le_of_ble_eq_true rfl) rfl (Nat.le_of_ble_eq_true rfl) dX11_stands_10 rfl (fun q5 => ?_)
    refine z_goto 43 dX11_stands_13 (by decide) ?_
    exact z_sub [] rfl (BX11_stands_43 b0 q5.1 q5.2 )
-- X11_parse
def bX11_parse_102 (self26 : Int32 × ZH → Option (Int32 × ZH)) (x0 : Nat) (x1 : Int32) (x2 : Int32) (x3 : Int32) (h : ZH) : Option (Int32 × ZH) :=
  self26 ((x3 + (nI 1)), h)
theorem BX11_parse_102 (b0 : Nat) (self26 : Int32 × ZH → Option (Int32 × ZH)) (x0 : Nat) (x1 : Int32) (x2 : Int32) (x3 : Int32) (h : ZH) (hself26 : ∀ (y3 : Int32) (hh : ZH), Zr zi b0 YX11_parse 3 26 [(0, .ref (b0 + x0)), (1, .int x1), (2, .int x2), (3, .int y3)] [] hh (self26 (y3, hh))) : Zr zi b0 YX11_parse 3 102 [(0, .ref (b0 + x0)), (1, .int x1), (2, .int x2), (3, .int x3)] [] h (bX11_parse_102 self26 x0 x1 x2 x3 h) := by
  unfold bX11_parse_102
  refine z_iinc (lv2 := [(3, .int (x3 + (nI 1))), (0, .ref (b0 + x0)), (1, .int x1), (2, .int x2)]) (nI 1) 105 3 dX11_parse_102 rfl rfl zki_1 (Nat.le_of_ble_eq_true rfl) rfl ?_
  refine z_goto 26 dX11_parse_105 (by decide) ?_
  exact z_sub [1, 2, 3, 0] rfl (hself26 (x3 + (nI 1)) h)
def kX11_parse_26 (x0 : Nat) (x1 : Int32) (x2 : Int32) (self26 : Int32 × ZH → Option (Int32 × ZH)) (x3 : Int32) (h : ZH) : Option (Int32 × ZH) :=
  if x2 ≤ x3 then (if (nI 4) = 0 then none else
  if (jrem x2 (nI 4)) = (nI 3) then ((fX11_replace x0 x1 h).bind fun h3 =>
  (fX11_edgesOf x0 x1 h3).bind fun q4 =>
  some (q4.1, q4.2)) else
  (some (((-100 : Int32) - x2), h))) else
  (if (nI 4) = 0 then none else
  (gR h 11 x0 7).bind fun v5 =>
  (lI h 14 v5 x3).bind fun v6 =>
  (fX11_stands (jrem x3 (nI 4)) v6 h).bind fun q7 =>
  if q7.1 = 0 then (some (((-100 : Int32) - x3), q7.2)) else
  (if (nI 4) = 0 then none else
  if (jrem x3 (nI 4)) = (nI 2) then ((gR q7.2 11 x0 1).bind fun v10 =>
  (gR q7.2 11 x0 7).bind fun v11 =>
  (lI q7.2 14 v11 (x3 - (nI 2))).bind fun v12 =>
  (gR q7.2 11 x0 7).bind fun v13 =>
  (lI q7.2 14 v13 (x3 - (nI 1))).bind fun v14 =>
  zl ((((nI 4) * (v12 - (nI 48))) + v14) - (nI 97)) fun v15 =>
  (lI q7.2 14 v10 v15).bind fun v16 =>
  (gR q7.2 11 x0 7).bind fun v17 =>
  (lI q7.2 14 v17 x3).bind fun v18 =>
  (sI q7.2 14 v10 v15 (v16 ||| (jshl (nI 1) (v18 - (nI 48))))).bind fun h19 =>
  bX11_parse_102 self26 x0 x1 x2 x3 h19) else
  (bX11_parse_102 self26 x0 x1 x2 x3 q7.2)))
def lX11_parse_26 (x0 : Nat) (x1 : Int32) (x2 : Int32) : (Int32 × ZH → Option (Int32 × ZH)) → Int32 × ZH → Option (Int32 × ZH) := fun self s => kX11_parse_26 x0 x1 x2 self s.1 s.2
theorem KX11_parse_26 (b0 : Nat) (x0 : Nat) (x1 : Int32) (x2 : Int32) (self26 : Int32 × ZH → Option (Int32 × ZH)) (hself26 : ∀ (y3 : Int32) (hh : ZH), Zr zi b0 YX11_parse 3 26 [(0, .ref (b0 + x0)), (1, .int x1), (2, .int x2), (3, .int y3)] [] hh (self26 (y3, hh))) (x3 : Int32) (h : ZH) : Zr zi b0 YX11_parse 3 26 [(0, .ref (b0 + x0)), (1, .int x1), (2, .int x2), (3, .int x3)] [] h (kX11_parse_26 x0 x1 x2 self26 x3 h) := by
  unfold kX11_parse_26
  refine z_iload_n 27 3 dX11_parse_26 rfl rfl ?_
  refine z_iload_n 28 2 dX11_parse_27 rfl rfl ?_
  refine z_icmp_ge 108 31 dX11_parse_28 (by decide) rfl (fun c1 => ?_) (fun c1 => ?_)
  · refine z_iload_n 109 2 dX11_parse_108 rfl rfl ?_
    refine z_iconst (nI 4) 110 zki_4 dX11_parse_109 rfl ?_
    refine z_irem 111 dX11_parse_110 rfl (fun _ => ?_)
    refine z_iconst (nI 3) 112 zki_3 dX11_parse_111 rfl ?_
    refine z_icmp_eq 120 115 dX11_parse_112 (by decide) rfl (fun c2 => ?_) (fun c2 => ?_)
    · refine z_aload_n 121 0 dX11_parse_120 rfl rfl ?_
      refine z_iload_n 122 1 dX11_parse_121 rfl rfl ?_
      refine z_callVv 125 (mX11_replace b0 x0 x1 h) zyX11_replace rfl w_1170 (ci := 11) rfl (Nat.le_of_ble_eq_true rfl) (fun _ e9 => kX11_replace e9) wm_yX11_replace ws_yX11_replace (Nat.le_of_ble_eq_true rfl) rfl (Nat.le_of_ble_eq_true rfl) dX11_parse_122 rfl (fun h3 => ?_)
      refine z_aload_n 126 0 dX11_parse_125 rfl rfl ?_
      refine z_iload_n 127 1 dX11_parse_126 rfl rfl ?_
      refine z_callVi 130 (mX11_edgesOf b0 x0 x1 h3) zyX11_edgesOf rfl w_1174 (ci := 11) rfl (Nat.le_of_ble_eq_true rfl) (fun _ e9 => kX11_edgesOf e9) wm_yX11_edgesOf ws_yX11_edgesOf (Nat.le_of_ble_eq_true rfl) rfl (Nat.le_of_ble_eq_true rfl) dX11_parse_127 rfl (fun q4 => ?_)
      exact z_ireturn dX11_parse_130 rfl
    · refine z_bipush (-100 : Int32) 117 zkb_m100 dX11_parse_115 rfl ?_
      refine z_iload_n 118 2 dX11_parse_117 rfl rfl ?_
      refine z_isub 119 dX11_parse_118 rfl ?_
      exact z_ireturn dX11_parse_119 rfl
  · refine z_iload_n 32 3 dX11_parse_31 rfl rfl ?_
    refine z_iconst (nI 4) 33 zki_4 dX11_parse_32 rfl ?_
    refine z_irem 34 dX11_parse_33 rfl (fun _ => ?_)
    refine z_aload_n 35 0 dX11_parse_34 rfl rfl ?_
    refine z_getR 38 zC11 (Nat.le_of_ble_eq_true rfl) rfl w_1024 dX11_parse_35 rfl (fun v5 _ => ?_)
    refine z_iload_n 39 3 dX11_parse_38 rfl rfl ?_
    refine z_iaload 40 dX11_parse_39 rfl (fun v6 _ => ?_)
    refine z_callSi 43 (mX11_stands b0 (jrem x3 (nI 4)) v6 h) zyX11_stands rfl w_1207 wt_yX11_stands (Nat.le_of_ble_eq_true rfl) rfl (Nat.le_of_ble_eq_true rfl) dX11_parse_40 rfl (fun q7 => ?_)
    refine z_if_ne 51 46 dX11_parse_43 (by decide) rfl (fun c8 => ?_) (fun c8 => ?_)
    · refine z_iload_n 52 3 dX11_parse_51 rfl rfl ?_
      refine z_iconst (nI 4) 53 zki_4 dX11_parse_52 rfl ?_
      refine z_irem 54 dX11_parse_53 rfl (fun _ => ?_)
      refine z_iconst (nI 2) 55 zki_2 dX11_parse_54 rfl ?_
      refine z_icmp_ne 102 58 dX11_parse_55 (by decide) rfl (fun c9 => ?_) (fun c9 => ?_)
      · exact z_sub [0, 1, 2, 3] rfl (BX11_parse_102 b0 self26 x0 x1 x2 x3 q7.2 hself26)
      · refine z_aload_n 59 0 dX11_parse_58 rfl rfl ?_
        refine z_getR 62 zC11 (Nat.le_of_ble_eq_true rfl) rfl w_1018 dX11_parse_59 rfl (fun v10 _ => ?_)
        refine z_iconst (nI 4) 63 zki_4 dX11_parse_62 rfl ?_
        refine z_aload_n 64 0 dX11_parse_63 rfl rfl ?_
        refine z_getR 67 zC11 (Nat.le_of_ble_eq_true rfl) rfl w_1024 dX11_parse_64 rfl (fun v11 _ => ?_)
        refine z_iload_n 68 3 dX11_parse_67 rfl rfl ?_
        refine z_iconst (nI 2) 69 zki_2 dX11_parse_68 rfl ?_
        refine z_isub 70 dX11_parse_69 rfl ?_
        refine z_iaload 71 dX11_parse_70 rfl (fun v12 _ => ?_)
        refine z_bipush (nI 48) 73 zkb_48 dX11_parse_71 rfl ?_
        refine z_isub 74 dX11_parse_73 rfl ?_
        refine z_imul 75 dX11_parse_74 rfl ?_
        refine z_aload_n 76 0 dX11_parse_75 rfl rfl ?_
        refine z_getR 79 zC11 (Nat.le_of_ble_eq_true rfl) rfl w_1024 dX11_parse_76 rfl (fun v13 _ => ?_)
        refine z_iload_n 80 3 dX11_parse_79 rfl rfl ?_
        refine z_iconst (nI 1) 81 zki_1 dX11_parse_80 rfl ?_
        refine z_isub 82 dX11_parse_81 rfl ?_
        refine z_iaload 83 dX11_parse_82 rfl (fun v14 _ => ?_)
        refine z_iadd 84 dX11_parse_83 rfl ?_
        refine z_bipush (nI 97) 86 zkb_97 dX11_parse_84 rfl ?_
        refine z_isub 87 dX11_parse_86 rfl ?_
        refine z_letI (fun v15 _ => ?_)
        refine z_dup2 88 rfl rfl dX11_parse_87 rfl ?_
        refine z_iaload 89 dX11_parse_88 rfl (fun v16 _ => ?_)
        refine z_iconst (nI 1) 90 zki_1 dX11_parse_89 rfl ?_
        refine z_aload_n 91 0 dX11_parse_90 rfl rfl ?_
        refine z_getR 94 zC11 (Nat.le_of_ble_eq_true rfl) rfl w_1024 dX11_parse_91 rfl (fun v17 _ => ?_)
        refine z_iload_n 95 3 dX11_parse_94 rfl rfl ?_
        refine z_iaload 96 dX11_parse_95 rfl (fun v18 _ => ?_)
        refine z_bipush (nI 48) 98 zkb_48 dX11_parse_96 rfl ?_
        refine z_isub 99 dX11_parse_98 rfl ?_
        refine z_ishl 100 dX11_parse_99 rfl ?_
        refine z_ior 101 dX11_parse_100 rfl ?_
        refine z_iastore 102 dX11_parse_101 rfl (fun h19 _ => ?_)
        exact z_sub [0, 1, 2, 3] rfl (BX11_parse_102 b0 self26 x0 x1 x2 x3 h19 hself26)
    · refine z_bipush (-100 : Int32) 48 zkb_m100 dX11_parse_46 rfl ?_
      refine z_iload_n 49 3 dX11_parse_48 rfl rfl ?_
      refine z_isub 50 dX11_parse_49 rfl ?_
      exact z_ireturn dX11_parse_50 rfl
theorem BX11_parse_26 (b0 : Nat) (x0 : Nat) (x1 : Int32) (x2 : Int32) (n : Nat) (x3 : Int32) (h : ZH) : Zr zi b0 YX11_parse 3 26 [(0, .ref (b0 + x0)), (1, .int x1), (2, .int x2), (3, .int x3)] [] h (zloop (lX11_parse_26 x0 x1 x2) n (x3, h)) :=
  zloop_Zr (fun s => [(0, .ref (b0 + x0)), (1, .int x1), (2, .int x2), (3, .int s.1)]) (fun _ => []) (fun s => s.2) (lX11_parse_26 x0 x1 x2) (fun self hs s => KX11_parse_26 b0 x0 x1 x2 self (fun y3 hh => hs (y3, hh)) s.1 s.2) n (x3, h)
def fX11_parse (x0 : Nat) (x1 : Int32) (h : ZH) : Option (Int32 × ZH) :=
  if x0 < zn h ∧ zK h x0 = 11 then ((fX11_isSlot x1 h).bind fun q1 =>
  if q1.1 = 0 then (some ((-2 : Int32), q1.2)) else
  ((gI q1.2 11 x0 8).bind fun v3 =>
  (pI q1.2 11 x0 8 (nI 0)).bind fun h4 =>
  (fX11_clearMade x0 h4).bind fun h5 =>
  zloop (lX11_parse_26 x0 x1 v3) zfu ((nI 0), h5))) else none
theorem kX11_parse {x0 : Nat} {x1 : Int32} {h : ZH} {x : Int32 × ZH} (e : fX11_parse x0 x1 h = some x) : x0 < zn h ∧ zK h x0 = 11 := by
  unfold fX11_parse at e
  exact zguard e
theorem mX11_parse (b0 : Nat) (x0 : Nat) (x1 : Int32) (h : ZH) : ZM zi b0 YX11_parse 3 [.ref (b0 + x0), .int x1] h (fX11_parse x0 x1 h) := by
  unfold fX11_parse
  refine ZM.of (by decide) rfl (Nat.le_of_ble_eq_true rfl) (fun _ => trivial) ?_
  refine z_sub (lv2 := [(0, .ref (b0 + x0)), (1, .int x1)]) [0, 1] rfl ?_
  refine z_guard (fun _ => ?_)
  refine z_iload_n 1 1 dX11_parse_0 rfl rfl ?_
  refine z_callSi 4 (mX11_isSlot b0 x1 h) zyX11_isSlot rfl w_1154 wt_yX11_isSlot (Nat.le_of_ble_eq_true rfl) rfl (Nat.le_of_ble_eq_true rfl) dX11_parse_1 rfl (fun q1 => ?_)
  refine z_if_ne 10 7 dX11_parse_4 (by decide) rfl (fun c2 => ?_) (fun c2 => ?_)
  · refine z_aload_n 11 0 dX11_parse_10 rfl rfl ?_
    refine z_getI 14 zC11 (Nat.le_of_ble_eq_true rfl) rfl w_1025 dX11_parse_11 rfl (fun v3 _ => ?_)
    refine z_istore_n (lv2 := [(2, .int v3), (0, .ref (b0 + x0)), (1, .int x1)]) 15 dX11_parse_14 rfl (Nat.le_of_ble_eq_true rfl) rfl ?_
    refine z_aload_n 16 1 dX11_parse_15 rfl rfl ?_
    refine z_iconst (nI 0) 17 zki_0 dX11_parse_16 rfl ?_
    refine z_putI 20 zC11 (Nat.le_of_ble_eq_true rfl) rfl rfl rfl w_1025 dX11_parse_17 rfl (fun h4 _ => ?_)
    refine z_aload_n 21 1 dX11_parse_20 rfl rfl ?_
    refine z_callVv 24 (mX11_clearMade b0 x0 h4) zyX11_clearMade rfl w_1203 (ci := 11) rfl (Nat.le_of_ble_eq_true rfl) (fun _ e9 => kX11_clearMade e9) wm_yX11_clearMade ws_yX11_clearMade (Nat.le_of_ble_eq_true rfl) rfl (Nat.le_of_ble_eq_true rfl) dX11_parse_21 rfl (fun h5 => ?_)
    refine z_iconst (nI 0) 25 zki_0 dX11_parse_24 rfl ?_
    refine z_istore_n (lv2 := [(3, .int (nI 0)), (2, .int v3), (0, .ref (b0 + x0)), (1, .int x1)]) 26 dX11_parse_25 rfl (Nat.le_of_ble_eq_true rfl) rfl ?_
    exact z_sub [2, 3, 1, 0] rfl (BX11_parse_26 b0 x0 x1 v3 zfu (nI 0) h5)
  · refine z_bipush (-2 : Int32) 9 zkb_m2 dX11_parse_7 rfl ?_
    exact z_ireturn dX11_parse_9 rfl
-- X11_random
def kX11_random_30 (x0 : Nat) (x1 : Int32) (x3 : Int32) (self30 : Int32 × Int32 × ZH → Option (Int32 × ZH)) (x4 : Int32) (x5 : Int32) (h : ZH) : Option (Int32 × ZH) :=
  if x3 ≤ x5 then ((fX11_replace x0 x1 h).bind fun h2 =>
  (fX11_edgesOf x0 x1 h2).bind fun q3 =>
  some (q3.1, q3.2)) else
  (zl ((x4 * (1103515245 : Int32)) + (nI 12345)) fun v4 =>
  if (nI 8) = 0 then none else
  zl (jrem (jushr v4 (nI 16)) (nI 8)) fun v5 =>
  zl ((v4 * (1103515245 : Int32)) + (nI 12345)) fun v6 =>
  if (nI 4) = 0 then none else
  zl (jrem (jushr v6 (nI 16)) (nI 4)) fun v7 =>
  zl ((v6 * (1103515245 : Int32)) + (nI 12345)) fun v8 =>
  (gR h 11 x0 1).bind fun v9 =>
  zl (((nI 4) * v5) + v7) fun v10 =>
  (lI h 14 v9 v10).bind fun v11 =>
  if (nI 8) = 0 then none else
  (sI h 14 v9 v10 (v11 ||| (jshl (nI 1) (jrem (jushr v8 (nI 16)) (nI 8))))).bind fun h12 =>
  self30 (v8, (x5 + (nI 1)), h12))
def lX11_random_30 (x0 : Nat) (x1 : Int32) (x3 : Int32) : (Int32 × Int32 × ZH → Option (Int32 × ZH)) → Int32 × Int32 × ZH → Option (Int32 × ZH) := fun self s => kX11_random_30 x0 x1 x3 self s.1 s.2.1 s.2.2
theorem KX11_random_30 (b0 : Nat) (x0 : Nat) (x1 : Int32) (x3 : Int32) (self30 : Int32 × Int32 × ZH → Option (Int32 × ZH)) (hself30 : ∀ (y4 : Int32) (y5 : Int32) (hh : ZH), Zr zi b0 YX11_random 3 30 [(0, .ref (b0 + x0)), (1, .int x1), (3, .int x3), (4, .int y4), (5, .int y5)] [] hh (self30 (y4, y5, hh))) (x4 : Int32) (x5 : Int32) (h : ZH) : Zr zi b0 YX11_random 3 30 [(0, .ref (b0 + x0)), (1, .int x1), (3, .int x3), (4, .int x4), (5, .int x5)] [] h (kX11_random_30 x0 x1 x3 self30 x4 x5 h) := by
  unfold kX11_random_30
  refine z_iload 32 4 dX11_random_30 rfl rfl ?_
  refine z_iload_n 33 2 dX11_random_32 rfl rfl ?_
  refine z_icmp_ge 119 36 dX11_random_33 (by decide) rfl (fun c1 => ?_) (fun c1 => ?_)
  · refine z_aload_n 120 0 dX11_random_119 rfl rfl ?_
    refine z_iload_n 121 1 dX11_random_120 rfl rfl ?_
    refine z_callVv 124 (mX11_replace b0 x0 x1 h) zyX11_replace rfl w_1170 (ci := 11) rfl (Nat.le_of_ble_eq_true rfl) (fun _ e9 => kX11_replace e9) wm_yX11_replace ws_yX11_replace (Nat.le_of_ble_eq_true rfl) rfl (Nat.le_of_ble_eq_true rfl) dX11_random_121 rfl (fun h2 => ?_)
    refine z_aload_n 125 0 dX11_random_124 rfl rfl ?_
    refine z_iload_n 126 1 dX11_random_125 rfl rfl ?_
    refine z_callVi 129 (mX11_edgesOf b0 x0 x1 h2) zyX11_edgesOf rfl w_1174 (ci := 11) rfl (Nat.le_of_ble_eq_true rfl) (fun _ e9 => kX11_edgesOf e9) wm_yX11_edgesOf ws_yX11_edgesOf (Nat.le_of_ble_eq_true rfl) rfl (Nat.le_of_ble_eq_true rfl) dX11_random_126 rfl (fun q3 => ?_)
    exact z_ireturn dX11_random_129 rfl
  · refine z_iload 38 3 dX11_random_36 rfl rfl ?_
    refine z_ldc 40 w_1214 dX11_random_38 rfl ?_
    refine z_imul 41 dX11_random_40 rfl ?_
    refine z_sipush (nI 12345) 44 zks_12345 dX11_random_41 rfl ?_
    refine z_iadd 45 dX11_random_44 rfl ?_
    refine z_letI (fun v4 _ => ?_)
    refine z_istore (lv2 := [(4, .int v4), (0, .ref (b0 + x0)), (1, .int x1), (3, .int x3), (5, .int x5)]) 47 dX11_random_45 rfl (Nat.le_of_ble_eq_true rfl) rfl ?_
    refine z_iload 49 0 dX11_random_47 rfl rfl ?_
    refine z_bipush (nI 16) 51 zkb_16 dX11_random_49 rfl ?_
    refine z_iushr 52 dX11_random_51 rfl ?_
    refine z_bipush (nI 8) 54 zkb_8 dX11_random_52 rfl ?_
    refine z_irem 55 dX11_random_54 rfl (fun _ => ?_)
    refine z_letI (fun v5 _ => ?_)
    refine z_istore (lv2 := [(6, .int v5), (4, .int v4), (0, .ref (b0 + x0)), (1, .int x1), (3, .int x3), (5, .int x5)]) 57 dX11_random_55 rfl (Nat.le_of_ble_eq_true rfl) rfl ?_
    refine z_iload 59 1 dX11_random_57 rfl rfl ?_
    refine z_ldc 61 w_1214 dX11_random_59 rfl ?_
    refine z_imul 62 dX11_random_61 rfl ?_
    refine z_sipush (nI 12345) 65 zks_12345 dX11_random_62 rfl ?_
    refine z_iadd 66 dX11_random_65 rfl ?_
    refine z_letI (fun v6 _ => ?_)
    refine z_istore (lv2 := [(4, .int v6), (6, .int v5), (0, .ref (b0 + x0)), (1, .int x1), (3, .int x3), (5, .int x5)]) 68 dX11_random_66 rfl (Nat.le_of_ble_eq_true rfl) rfl ?_
    refine z_iload 70 0 dX11_random_68 rfl rfl ?_
    refine z_bipush (nI 16) 72 zkb_16 dX11_random_70 rfl ?_
    refine z_iushr 73 dX11_random_72 rfl ?_
    refine z_iconst (nI 4) 74 zki_4 dX11_random_73 rfl ?_
    refine z_irem 75 dX11_random_74 rfl (fun _ => ?_)
    refine z_letI (fun v7 _ => ?_)
    refine z_istore (lv2 := [(7, .int v7), (4, .int v6), (6, .int v5), (0, .ref (b0 + x0)), (1, .int x1), (3, .int x3), (5, .int x5)]) 77 dX11_random_75 rfl (Nat.le_of_ble_eq_true rfl) rfl ?_
    refine z_iload 79 1 dX11_random_77 rfl rfl ?_
    refine z_ldc 81 w_1214 dX11_random_79 rfl ?_
    refine z_imul 82 dX11_random_81 rfl ?_
    refine z_sipush (nI 12345) 85 zks_12345 dX11_random_82 rfl ?_
    refine z_iadd 86 dX11_random_85 rfl ?_
    refine z_letI (fun v8 _ => ?_)
    refine z_istore (lv2 := [(4, .int v8), (7, .int v7), (6, .int v5), (0, .ref (b0 + x0)), (1, .int x1), (3, .int x3), (5, .int x5)]) 88 dX11_random_86 rfl (Nat.le_of_ble_eq_true rfl) rfl ?_
    refine z_aload_n 89 3 dX11_random_88 rfl rfl ?_
    refine z_getR 92 zC11 (Nat.le_of_ble_eq_true rfl) rfl w_1018 dX11_random_89 rfl (fun v9 _ => ?_)
    refine z_iconst (nI 4) 93 zki_4 dX11_random_92 rfl ?_
    refine z_iload 95 2 dX11_random_93 rfl rfl ?_
    refine z_imul 96 dX11_random_95 rfl ?_
    refine z_iload 98 1 dX11_random_96 rfl rfl ?_
    refine z_iadd 99 dX11_random_98 rfl ?_
    refine z_letI (fun v10 _ => ?_)
    refine z_dup2 100 rfl rfl dX11_random_99 rfl ?_
    refine z_iaload 101 dX11_random_100 rfl (fun v11 _ => ?_)
    refine z_iconst (nI 1) 102 zki_1 dX11_random_101 rfl ?_
    refine z_iload 104 0 dX11_random_102 rfl rfl ?_
    refine z_bipush (nI 16) 106 zkb_16 dX11_random_104 rfl ?_
    refine z_iushr 107 dX11_random_106 rfl ?_
    refine z_bipush (nI 8) 109 zkb_8 dX11_random_107 rfl ?_
    refine z_irem 110 dX11_random_109 rfl (fun _ => ?_)
    refine z_ishl 111 dX11_random_110 rfl ?_
    refine z_ior 112 dX11_random_111 rfl ?_
    refine z_iastore 113 dX11_random_112 rfl (fun h12 _ => ?_)
    refine z_iinc (lv2 := [(5, .int (x5 + (nI 1))), (4, .int v8), (7, .int v7), (6, .int v5), (0, .ref (b0 + x0)), (1, .int x1), (3, .int x3)]) (nI 1) 116 6 dX11_random_113 rfl rfl zki_1 (Nat.le_of_ble_eq_true rfl) rfl ?_
    refine z_goto 30 dX11_random_116 (by decide) ?_
    exact z_sub [4, 5, 6, 1, 0] rfl (hself30 v8 (x5 + (nI 1)) h12)
theorem BX11_random_30 (b0 : Nat) (x0 : Nat) (x1 : Int32) (x3 : Int32) (n : Nat) (x4 : Int32) (x5 : Int32) (h : ZH) : Zr zi b0 YX11_random 3 30 [(0, .ref (b0 + x0)), (1, .int x1), (3, .int x3), (4, .int x4), (5, .int x5)] [] h (zloop (lX11_random_30 x0 x1 x3) n (x4, x5, h)) :=
  zloop_Zr (fun s => [(0, .ref (b0 + x0)), (1, .int x1), (3, .int x3), (4, .int s.1), (5, .int s.2.1)]) (fun _ => []) (fun s => s.2.2) (lX11_random_30 x0 x1 x3) (fun self hs s => KX11_random_30 b0 x0 x1 x3 self (fun y4 y5 hh => hs (y4, y5, hh)) s.1 s.2.1 s.2.2) n (x4, x5, h)
def bX11_random_17 (h : ZH) : Option (Int32 × ZH) :=
  some ((-2 : Int32), h)
theorem BX11_random_17 (b0 : Nat) (h : ZH) : Zr zi b0 YX11_random 3 17 [] [] h (bX11_random_17 h) := by
  unfold bX11_random_17
  refine z_bipush (-2 : Int32) 19 zkb_m2 dX11_random_17 rfl ?_
  exact z_ireturn dX11_random_19 rfl
def fX11_random (x0 : Nat) (x1 : Int32) (x2 : Int32) (x3 : Int32) (h : ZH) : Option (Int32 × ZH) :=
  if x0 < zn h ∧ zK h x0 = 11 then ((fX11_isSlot x1 h).bind fun q1 =>
  if q1.1 = 0 then (bX11_random_17 q1.2) else
  ((fX11_isIn x3 (nI 0) (nI 24) q1.2).bind fun q3 =>
  if q3.1 = 0 then (bX11_random_17 q3.2) else
  ((fX11_clearMade x0 q3.2).bind fun h5 =>
  zloop (lX11_random_30 x0 x1 x3) zfu (x2, (nI 0), h5)))) else none
theorem kX11_random {x0 : Nat} {x1 : Int32} {x2 : Int32} {x3 : Int32} {h : ZH} {x : Int32 × ZH} (e : fX11_random x0 x1 x2 x3 h = some x) : x0 < zn h ∧ zK h x0 = 11 := by
  unfold fX11_random at e
  exact zguard e
theorem mX11_random (b0 : Nat) (x0 : Nat) (x1 : Int32) (x2 : Int32) (x3 : Int32) (h : ZH) : ZM zi b0 YX11_random 3 [.ref (b0 + x0), .int x1, .int x2, .int x3] h (fX11_random x0 x1 x2 x3 h) := by
  unfold fX11_random
  refine ZM.of (by decide) rfl (Nat.le_of_ble_eq_true rfl) (fun _ => trivial) ?_
  refine z_sub (lv2 := [(0, .ref (b0 + x0)), (1, .int x1), (2, .int x2), (3, .int x3)]) [0, 1, 2, 3] rfl ?_
  refine z_guard (fun _ => ?_)
  refine z_iload_n 1 1 dX11_random_0 rfl rfl ?_
  refine z_callSi 4 (mX11_isSlot b0 x1 h) zyX11_isSlot rfl w_1154 wt_yX11_isSlot (Nat.le_of_ble_eq_true rfl) rfl (Nat.le_of_ble_eq_true rfl) dX11_random_1 rfl (fun q1 => ?_)
  refine z_if_eq 17 7 dX11_random_4 (by decide) rfl (fun c2 => ?_) (fun c2 => ?_)
  · exact z_sub [] rfl (BX11_random_17 b0 q1.2 )
  · refine z_iload_n 8 3 dX11_random_7 rfl rfl ?_
    refine z_iconst (nI 0) 9 zki_0 dX11_random_8 rfl ?_
    refine z_bipush (nI 24) 11 zkb_24 dX11_random_9 rfl ?_
    refine z_callSi 14 (mX11_isIn b0 x3 (nI 0) (nI 24) q1.2) zyX11_isIn rfl w_1157 wt_yX11_isIn (Nat.le_of_ble_eq_true rfl) rfl (Nat.le_of_ble_eq_true rfl) dX11_random_11 rfl (fun q3 => ?_)
    refine z_if_ne 20 17 dX11_random_14 (by decide) rfl (fun c4 => ?_) (fun c4 => ?_)
    · refine z_aload_n 21 0 dX11_random_20 rfl rfl ?_
      refine z_callVv 24 (mX11_clearMade b0 x0 q3.2) zyX11_clearMade rfl w_1203 (ci := 11) rfl (Nat.le_of_ble_eq_true rfl) (fun _ e9 => kX11_clearMade e9) wm_yX11_clearMade ws_yX11_clearMade (Nat.le_of_ble_eq_true rfl) rfl (Nat.le_of_ble_eq_true rfl) dX11_random_21 rfl (fun h5 => ?_)
      refine z_iload_n 25 2 dX11_random_24 rfl rfl ?_
      refine z_istore (lv2 := [(4, .int x2), (0, .ref (b0 + x0)), (1, .int x1), (2, .int x2), (3, .int x3)]) 27 dX11_random_25 rfl (Nat.le_of_ble_eq_true rfl) rfl ?_
      refine z_iconst (nI 0) 28 zki_0 dX11_random_27 rfl ?_
      refine z_istore (lv2 := [(5, .int (nI 0)), (4, .int x2), (0, .ref (b0 + x0)), (1, .int x1), (2, .int x2), (3, .int x3)]) 30 dX11_random_28 rfl (Nat.le_of_ble_eq_true rfl) rfl ?_
      exact z_sub [2, 3, 5, 1, 0] rfl (BX11_random_30 b0 x0 x1 x3 zfu x2 (nI 0) h5)
    · exact z_sub [] rfl (BX11_random_17 b0 q3.2 )
-- X11_readWord
def kX11_readWord_15 (x0 : Nat) (self15 : Int32 × ZH → Option (Int32 × ZH)) (x1 : Int32) (h : ZH) : Option (Int32 × ZH) :=
  (gI h 11 x0 12).bind fun v1 =>
  if v1 ≤ x1 then (some ((-1 : Int32), h)) else
  ((gR h 11 x0 7).bind fun v3 =>
  (lI h 14 v3 x1).bind fun v4 =>
  (fX11_isIn v4 (nI 97) (nI 100) h).bind fun q5 =>
  if q5.1 = 0 then (some (x1, q5.2)) else
  ((gR q5.2 11 x0 11).bind fun v7 =>
  (gR q5.2 11 x0 7).bind fun v8 =>
  (lI q5.2 14 v8 x1).bind fun v9 =>
  (sI q5.2 14 v7 x1 (v9 - (nI 97))).bind fun h10 =>
  self15 ((x1 + (nI 1)), h10)))
def lX11_readWord_15 (x0 : Nat) : (Int32 × ZH → Option (Int32 × ZH)) → Int32 × ZH → Option (Int32 × ZH) := fun self s => kX11_readWord_15 x0 self s.1 s.2
theorem KX11_readWord_15 (b0 : Nat) (x0 : Nat) (self15 : Int32 × ZH → Option (Int32 × ZH)) (hself15 : ∀ (y1 : Int32) (hh : ZH), Zr zi b0 YX11_readWord 2 15 [(0, .ref (b0 + x0)), (1, .int y1)] [] hh (self15 (y1, hh))) (x1 : Int32) (h : ZH) : Zr zi b0 YX11_readWord 2 15 [(0, .ref (b0 + x0)), (1, .int x1)] [] h (kX11_readWord_15 x0 self15 x1 h) := by
  unfold kX11_readWord_15
  refine z_iload_n 16 1 dX11_readWord_15 rfl rfl ?_
  refine z_aload_n 17 0 dX11_readWord_16 rfl rfl ?_
  refine z_getI 20 zC11 (Nat.le_of_ble_eq_true rfl) rfl w_1029 dX11_readWord_17 rfl (fun v1 _ => ?_)
  refine z_icmp_ge 62 23 dX11_readWord_20 (by decide) rfl (fun c2 => ?_) (fun c2 => ?_)
  · refine z_iconst (-1 : Int32) 63 zki_m1 dX11_readWord_62 rfl ?_
    exact z_ireturn dX11_readWord_63 rfl
  · refine z_aload_n 24 0 dX11_readWord_23 rfl rfl ?_
    refine z_getR 27 zC11 (Nat.le_of_ble_eq_true rfl) rfl w_1024 dX11_readWord_24 rfl (fun v3 _ => ?_)
    refine z_iload_n 28 1 dX11_readWord_27 rfl rfl ?_
    refine z_iaload 29 dX11_readWord_28 rfl (fun v4 _ => ?_)
    refine z_bipush (nI 97) 31 zkb_97 dX11_readWord_29 rfl ?_
    refine z_bipush (nI 100) 33 zkb_100 dX11_readWord_31 rfl ?_
    refine z_callSi 36 (mX11_isIn b0 v4 (nI 97) (nI 100) h) zyX11_isIn rfl w_1157 wt_yX11_isIn (Nat.le_of_ble_eq_true rfl) rfl (Nat.le_of_ble_eq_true rfl) dX11_readWord_33 rfl (fun q5 => ?_)
    refine z_if_ne 41 39 dX11_readWord_36 (by decide) rfl (fun c6 => ?_) (fun c6 => ?_)
    · refine z_aload_n 42 0 dX11_readWord_41 rfl rfl ?_
      refine z_getR 45 zC11 (Nat.le_of_ble_eq_true rfl) rfl w_1028 dX11_readWord_42 rfl (fun v7 _ => ?_)
      refine z_iload_n 46 1 dX11_readWord_45 rfl rfl ?_
      refine z_aload_n 47 0 dX11_readWord_46 rfl rfl ?_
      refine z_getR 50 zC11 (Nat.le_of_ble_eq_true rfl) rfl w_1024 dX11_readWord_47 rfl (fun v8 _ => ?_)
      refine z_iload_n 51 1 dX11_readWord_50 rfl rfl ?_
      refine z_iaload 52 dX11_readWord_51 rfl (fun v9 _ => ?_)
      refine z_bipush (nI 97) 54 zkb_97 dX11_readWord_52 rfl ?_
      refine z_isub 55 dX11_readWord_54 rfl ?_
      refine z_iastore 56 dX11_readWord_55 rfl (fun h10 _ => ?_)
      refine z_iinc (lv2 := [(1, .int (x1 + (nI 1))), (0, .ref (b0 + x0))]) (nI 1) 59 1 dX11_readWord_56 rfl rfl zki_1 (Nat.le_of_ble_eq_true rfl) rfl ?_
      refine z_goto 15 dX11_readWord_59 (by decide) ?_
      exact z_sub [1, 0] rfl (hself15 (x1 + (nI 1)) h10)
    · refine z_iload_n 40 1 dX11_readWord_39 rfl rfl ?_
      exact z_ireturn dX11_readWord_40 rfl
theorem BX11_readWord_15 (b0 : Nat) (x0 : Nat) (n : Nat) (x1 : Int32) (h : ZH) : Zr zi b0 YX11_readWord 2 15 [(0, .ref (b0 + x0)), (1, .int x1)] [] h (zloop (lX11_readWord_15 x0) n (x1, h)) :=
  zloop_Zr (fun s => [(0, .ref (b0 + x0)), (1, .int s.1)]) (fun _ => []) (fun s => s.2) (lX11_readWord_15 x0) (fun self hs s => KX11_readWord_15 b0 x0 self (fun y1 hh => hs (y1, hh)) s.1 s.2) n (x1, h)
def fX11_readWord (x0 : Nat) (h : ZH) : Option (Int32 × ZH) :=
  if x0 < zn h ∧ zK h x0 = 11 then ((gI h 11 x0 8).bind fun v1 =>
  (pI h 11 x0 12 v1).bind fun h2 =>
  (pI h2 11 x0 8 (nI 0)).bind fun h3 =>
  zloop (lX11_readWord_15 x0) zfu ((nI 0), h3)) else none
theorem kX11_readWord {x0 : Nat} {h : ZH} {x : Int32 × ZH} (e : fX11_readWord x0 h = some x) : x0 < zn h ∧ zK h x0 = 11 := by
  unfold fX11_readWord at e
  exact zguard e
theorem mX11_readWord (b0 : Nat) (x0 : Nat) (h : ZH) : ZM zi b0 YX11_readWord 2 [.ref (b0 + x0)] h (fX11_readWord x0 h) := by
  unfold fX11_readWord
  refine ZM.of (by decide) rfl (Nat.le_of_ble_eq_true rfl) (fun _ => trivial) ?_
  refine z_sub (lv2 := [(0, .ref (b0 + x0))]) [0] rfl ?_
  refine z_guard (fun _ => ?_)
  refine z_aload_n 1 0 dX11_readWord_0 rfl rfl ?_
  refine z_aload_n 2 0 dX11_readWord_1 rfl rfl ?_
  refine z_getI 5 zC11 (Nat.le_of_ble_eq_true rfl) rfl w_1025 dX11_readWord_2 rfl (fun v1 _ => ?_)
  refine z_putI 8 zC11 (Nat.le_of_ble_eq_true rfl) rfl rfl rfl w_1029 dX11_readWord_5 rfl (fun h2 _ => ?_)
  refine z_aload_n 9 0 dX11_readWord_8 rfl rfl ?_
  refine z_iconst (nI 0) 10 zki_0 dX11_readWord_9 rfl ?_
  refine z_putI 13 zC11 (Nat.le_of_ble_eq_true rfl) rfl rfl rfl w_1025 dX11_readWord_10 rfl (fun h3 _ => ?_)
  refine z_iconst (nI 0) 14 zki_0 dX11_readWord_13 rfl ?_
  refine z_istore_n (lv2 := [(1, .int (nI 0)), (0, .ref (b0 + x0))]) 15 dX11_readWord_14 rfl (Nat.le_of_ble_eq_true rfl) rfl ?_
  exact z_sub [1, 0] rfl (BX11_readWord_15 b0 x0 zfu (nI 0) h3)
-- X11_writeOut
def kX11_writeOut_2 (x0 : Nat) (self2 : Int32 × ZH → Option (Int32 × ZH)) (x1 : Int32) (h : ZH) : Option (Int32 × ZH) :=
  (gI h 11 x0 12).bind fun v1 =>
  if v1 ≤ x1 then ((gI h 11 x0 12).bind fun v3 =>
  (pI h 11 x0 10 v3).bind fun h4 =>
  (gI h4 11 x0 12).bind fun v5 =>
  some (v5, h4)) else
  ((gR h 11 x0 9).bind fun v6 =>
  (gR h 11 x0 11).bind fun v7 =>
  (lI h 14 v7 x1).bind fun v8 =>
  (sI h 14 v6 x1 ((nI 97) + v8)).bind fun h9 =>
  self2 ((x1 + (nI 1)), h9))
def lX11_writeOut_2 (x0 : Nat) : (Int32 × ZH → Option (Int32 × ZH)) → Int32 × ZH → Option (Int32 × ZH) := fun self s => kX11_writeOut_2 x0 self s.1 s.2
theorem KX11_writeOut_2 (b0 : Nat) (x0 : Nat) (self2 : Int32 × ZH → Option (Int32 × ZH)) (hself2 : ∀ (y1 : Int32) (hh : ZH), Zr zi b0 YX11_writeOut 1 2 [(0, .ref (b0 + x0)), (1, .int y1)] [] hh (self2 (y1, hh))) (x1 : Int32) (h : ZH) : Zr zi b0 YX11_writeOut 1 2 [(0, .ref (b0 + x0)), (1, .int x1)] [] h (kX11_writeOut_2 x0 self2 x1 h) := by
  unfold kX11_writeOut_2
  refine z_iload_n 3 1 dX11_writeOut_2 rfl rfl ?_
  refine z_aload_n 4 0 dX11_writeOut_3 rfl rfl ?_
  refine z_getI 7 zC11 (Nat.le_of_ble_eq_true rfl) rfl w_1029 dX11_writeOut_4 rfl (fun v1 _ => ?_)
  refine z_icmp_ge 31 10 dX11_writeOut_7 (by decide) rfl (fun c2 => ?_) (fun c2 => ?_)
  · refine z_aload_n 32 0 dX11_writeOut_31 rfl rfl ?_
    refine z_aload_n 33 0 dX11_writeOut_32 rfl rfl ?_
    refine z_getI 36 zC11 (Nat.le_of_ble_eq_true rfl) rfl w_1029 dX11_writeOut_33 rfl (fun v3 _ => ?_)
    refine z_putI 39 zC11 (Nat.le_of_ble_eq_true rfl) rfl rfl rfl w_1027 dX11_writeOut_36 rfl (fun h4 _ => ?_)
    refine z_aload_n 40 0 dX11_writeOut_39 rfl rfl ?_
    refine z_getI 43 zC11 (Nat.le_of_ble_eq_true rfl) rfl w_1029 dX11_writeOut_40 rfl (fun v5 _ => ?_)
    exact z_ireturn dX11_writeOut_43 rfl
  · refine z_aload_n 11 0 dX11_writeOut_10 rfl rfl ?_
    refine z_getR 14 zC11 (Nat.le_of_ble_eq_true rfl) rfl w_1026 dX11_writeOut_11 rfl (fun v6 _ => ?_)
    refine z_iload_n 15 1 dX11_writeOut_14 rfl rfl ?_
    refine z_bipush (nI 97) 17 zkb_97 dX11_writeOut_15 rfl ?_
    refine z_aload_n 18 0 dX11_writeOut_17 rfl rfl ?_
    refine z_getR 21 zC11 (Nat.le_of_ble_eq_true rfl) rfl w_1028 dX11_writeOut_18 rfl (fun v7 _ => ?_)
    refine z_iload_n 22 1 dX11_writeOut_21 rfl rfl ?_
    refine z_iaload 23 dX11_writeOut_22 rfl (fun v8 _ => ?_)
    refine z_iadd 24 dX11_writeOut_23 rfl ?_
    refine z_iastore 25 dX11_writeOut_24 rfl (fun h9 _ => ?_)
    refine z_iinc (lv2 := [(1, .int (x1 + (nI 1))), (0, .ref (b0 + x0))]) (nI 1) 28 1 dX11_writeOut_25 rfl rfl zki_1 (Nat.le_of_ble_eq_true rfl) rfl ?_
    refine z_goto 2 dX11_writeOut_28 (by decide) ?_
    exact z_sub [1, 0] rfl (hself2 (x1 + (nI 1)) h9)
theorem BX11_writeOut_2 (b0 : Nat) (x0 : Nat) (n : Nat) (x1 : Int32) (h : ZH) : Zr zi b0 YX11_writeOut 1 2 [(0, .ref (b0 + x0)), (1, .int x1)] [] h (zloop (lX11_writeOut_2 x0) n (x1, h)) :=
  zloop_Zr (fun s => [(0, .ref (b0 + x0)), (1, .int s.1)]) (fun _ => []) (fun s => s.2) (lX11_writeOut_2 x0) (fun self hs s => KX11_writeOut_2 b0 x0 self (fun y1 hh => hs (y1, hh)) s.1 s.2) n (x1, h)
def fX11_writeOut (x0 : Nat) (h : ZH) : Option (Int32 × ZH) :=
  if x0 < zn h ∧ zK h x0 = 11 then (zloop (lX11_writeOut_2 x0) zfu ((nI 0), h)) else none
theorem kX11_writeOut {x0 : Nat} {h : ZH} {x : Int32 × ZH} (e : fX11_writeOut x0 h = some x) : x0 < zn h ∧ zK h x0 = 11 := by
  unfold fX11_writeOut at e
  exact zguard e
theorem mX11_writeOut (b0 : Nat) (x0 : Nat) (h : ZH) : ZM zi b0 YX11_writeOut 1 [.ref (b0 + x0)] h (fX11_writeOut x0 h) := by
  unfold fX11_writeOut
  refine ZM.of (by decide) rfl (Nat.le_of_ble_eq_true rfl) (fun _ => trivial) ?_
  refine z_sub (lv2 := [(0, .ref (b0 + x0))]) [0] rfl ?_
  refine z_guard (fun _ => ?_)
  refine z_iconst (nI 0) 1 zki_0 dX11_writeOut_0 rfl ?_
  refine z_istore_n (lv2 := [(1, .int (nI 0)), (0, .ref (b0 + x0))]) 2 dX11_writeOut_1 rfl (Nat.le_of_ble_eq_true rfl) rfl ?_
  exact z_sub [1, 0] rfl (BX11_writeOut_2 b0 x0 zfu (nI 0) h)
-- X11_output
def bX11_output_24 (t0 : Int32) (h : ZH) : Option (Int32 × ZH) :=
  some (t0, h)
theorem BX11_output_24 (b0 : Nat) (t0 : Int32) (h : ZH) : Zr zi b0 YX11_output 2 24 [] [.int t0] h (bX11_output_24 t0 h) := by
  unfold bX11_output_24
  exact z_ireturn dX11_output_24 rfl
def fX11_output (x0 : Nat) (x1 : Int32) (h : ZH) : Option (Int32 × ZH) :=
  if x0 < zn h ∧ zK h x0 = 11 then ((gI h 11 x0 10).bind fun v1 =>
  (fX11_isIn x1 (nI 0) (v1 - (nI 1)) h).bind fun q2 =>
  if q2.1 = 0 then (bX11_output_24 (-1 : Int32) q2.2) else
  ((gR q2.2 11 x0 9).bind fun v4 =>
  (lI q2.2 14 v4 x1).bind fun v5 =>
  bX11_output_24 v5 q2.2)) else none
theorem kX11_output {x0 : Nat} {x1 : Int32} {h : ZH} {x : Int32 × ZH} (e : fX11_output x0 x1 h = some x) : x0 < zn h ∧ zK h x0 = 11 := by
  unfold fX11_output at e
  exact zguard e
theorem mX11_output (b0 : Nat) (x0 : Nat) (x1 : Int32) (h : ZH) : ZM zi b0 YX11_output 2 [.ref (b0 + x0), .int x1] h (fX11_output x0 x1 h) := by
  unfold fX11_output
  refine ZM.of (by decide) rfl (Nat.le_of_ble_eq_true rfl) (fun _ => trivial) ?_
  refine z_sub (lv2 := [(0, .ref (b0 + x0)), (1, .int x1)]) [0, 1] rfl ?_
  refine z_guard (fun _ => ?_)
  refine z_iload_n 1 1 dX11_output_0 rfl rfl ?_
  refine z_iconst (nI 0) 2 zki_0 dX11_output_1 rfl ?_
  refine z_aload_n 3 0 dX11_output_2 rfl rfl ?_
  refine z_getI 6 zC11 (Nat.le_of_ble_eq_true rfl) rfl w_1027 dX11_output_3 rfl (fun v1 _ => ?_)
  refine z_iconst (nI 1) 7 zki_1 dX11_output_6 rfl ?_
  refine z_isub 8 dX11_output_7 rfl ?_
  refine z_callSi 11 (mX11_isIn b0 x1 (nI 0) (v1 - (nI 1)) h) zyX11_isIn rfl w_1157 wt_yX11_isIn (Nat.le_of_ble_eq_true rfl) rfl (Nat.le_of_ble_eq_true rfl) dX11_output_8 rfl (fun q2 => ?_)
  refine z_if_eq 23 14 dX11_output_11 (by decide) rfl (fun c3 => ?_) (fun c3 => ?_)
  · refine z_iconst (-1 : Int32) 24 zki_m1 dX11_output_23 rfl ?_
    exact z_sub [] rfl (BX11_output_24 b0 (-1 : Int32) q2.2 )
  · refine z_aload_n 15 0 dX11_output_14 rfl rfl ?_
    refine z_getR 18 zC11 (Nat.le_of_ble_eq_true rfl) rfl w_1026 dX11_output_15 rfl (fun v4 _ => ?_)
    refine z_iload_n 19 1 dX11_output_18 rfl rfl ?_
    refine z_iaload 20 dX11_output_19 rfl (fun v5 _ => ?_)
    refine z_goto 24 dX11_output_20 (by decide) ?_
    exact z_sub [] rfl (BX11_output_24 b0 v5 q2.2 )
-- X11_sign
def fX11_sign (x0 : Nat) (x1 : Int32) (h : ZH) : Option (ZH) :=
  if x0 < zn h ∧ zK h x0 = 11 then ((gR h 11 x0 9).bind fun v1 =>
  (gI h 11 x0 10).bind fun v2 =>
  (sI h 14 v1 v2 x1).bind fun h3 =>
  (gI h3 11 x0 10).bind fun v4 =>
  (pI h3 11 x0 10 (v4 + (nI 1))).bind fun h5 =>
  some h5) else none
theorem kX11_sign {x0 : Nat} {x1 : Int32} {h : ZH} {x : ZH} (e : fX11_sign x0 x1 h = some x) : x0 < zn h ∧ zK h x0 = 11 := by
  unfold fX11_sign at e
  exact zguard e
theorem mX11_sign (b0 : Nat) (x0 : Nat) (x1 : Int32) (h : ZH) : ZM zv b0 YX11_sign 1 [.ref (b0 + x0), .int x1] h (fX11_sign x0 x1 h) := by
  unfold fX11_sign
  refine ZM.of (by decide) rfl (Nat.le_of_ble_eq_true rfl) (fun _ => trivial) ?_
  refine z_sub (lv2 := [(0, .ref (b0 + x0)), (1, .int x1)]) [0, 1] rfl ?_
  refine z_guard (fun _ => ?_)
  refine z_aload_n 1 0 dX11_sign_0 rfl rfl ?_
  refine z_getR 4 zC11 (Nat.le_of_ble_eq_true rfl) rfl w_1026 dX11_sign_1 rfl (fun v1 _ => ?_)
  refine z_aload_n 5 0 dX11_sign_4 rfl rfl ?_
  refine z_getI 8 zC11 (Nat.le_of_ble_eq_true rfl) rfl w_1027 dX11_sign_5 rfl (fun v2 _ => ?_)
  refine z_iload_n 9 1 dX11_sign_8 rfl rfl ?_
  refine z_iastore 10 dX11_sign_9 rfl (fun h3 _ => ?_)
  refine z_aload_n 11 0 dX11_sign_10 rfl rfl ?_
  refine z_dup 12 rfl dX11_sign_11 rfl ?_
  refine z_getI 15 zC11 (Nat.le_of_ble_eq_true rfl) rfl w_1027 dX11_sign_12 rfl (fun v4 _ => ?_)
  refine z_iconst (nI 1) 16 zki_1 dX11_sign_15 rfl ?_
  refine z_iadd 17 dX11_sign_16 rfl ?_
  refine z_putI 20 zC11 (Nat.le_of_ble_eq_true rfl) rfl rfl rfl w_1027 dX11_sign_17 rfl (fun h5 _ => ?_)
  exact z_return dX11_sign_20 rfl
-- X11_writeGraph
def bX11_writeGraph_97 (self17 : Int32 × ZH → Option (Int32 × ZH)) (x0 : Nat) (x1 : Int32) (x2 : Int32) (h : ZH) : Option (Int32 × ZH) :=
  self17 ((x2 + (nI 1)), h)
theorem BX11_writeGraph_97 (b0 : Nat) (self17 : Int32 × ZH → Option (Int32 × ZH)) (x0 : Nat) (x1 : Int32) (x2 : Int32) (h : ZH) (hself17 : ∀ (y2 : Int32) (hh : ZH), Zr zi b0 YX11_writeGraph 3 17 [(0, .ref (b0 + x0)), (1, .int x1), (2, .int y2)] [] hh (self17 (y2, hh))) : Zr zi b0 YX11_writeGraph 3 97 [(0, .ref (b0 + x0)), (1, .int x1), (2, .int x2)] [] h (bX11_writeGraph_97 self17 x0 x1 x2 h) := by
  unfold bX11_writeGraph_97
  refine z_iinc (lv2 := [(2, .int (x2 + (nI 1))), (0, .ref (b0 + x0)), (1, .int x1)]) (nI 1) 100 2 dX11_writeGraph_97 rfl rfl zki_1 (Nat.le_of_ble_eq_true rfl) rfl ?_
  refine z_goto 17 dX11_writeGraph_100 (by decide) ?_
  exact z_sub [1, 2, 0] rfl (hself17 (x2 + (nI 1)) h)
def bX11_writeGraph_69 (self17 : Int32 × ZH → Option (Int32 × ZH)) (x0 : Nat) (x1 : Int32) (x2 : Int32) (x3 : Int32) (x4 : Int32) (h : ZH) : Option (Int32 × ZH) :=
  (fX11_sign x0 ((nI 48) + x3) h).bind fun h1 =>
  (fX11_sign x0 ((nI 97) + x4) h1).bind fun h2 =>
  if (nI 8) = 0 then none else
  (fX11_sign x0 ((nI 48) + (jrem x2 (nI 8))) h2).bind fun h3 =>
  bX11_writeGraph_97 self17 x0 x1 x2 h3
theorem BX11_writeGraph_69 (b0 : Nat) (self17 : Int32 × ZH → Option (Int32 × ZH)) (x0 : Nat) (x1 : Int32) (x2 : Int32) (x3 : Int32) (x4 : Int32) (h : ZH) (hself17 : ∀ (y2 : Int32) (hh : ZH), Zr zi b0 YX11_writeGraph 3 17 [(0, .ref (b0 + x0)), (1, .int x1), (2, .int y2)] [] hh (self17 (y2, hh))) : Zr zi b0 YX11_writeGraph 3 69 [(0, .ref (b0 + x0)), (1, .int x1), (2, .int x2), (3, .int x3), (4, .int x4)] [] h (bX11_writeGraph_69 self17 x0 x1 x2 x3 x4 h) := by
  unfold bX11_writeGraph_69
  refine z_aload_n 70 0 dX11_writeGraph_69 rfl rfl ?_
  refine z_bipush (nI 48) 72 zkb_48 dX11_writeGraph_70 rfl ?_
  refine z_iload_n 73 3 dX11_writeGraph_72 rfl rfl ?_
  refine z_iadd 74 dX11_writeGraph_73 rfl ?_
  refine z_callVv 77 (mX11_sign b0 x0 ((nI 48) + x3) h) zyX11_sign rfl w_1223 (ci := 11) rfl (Nat.le_of_ble_eq_true rfl) (fun _ e9 => kX11_sign e9) wm_yX11_sign ws_yX11_sign (Nat.le_of_ble_eq_true rfl) rfl (Nat.le_of_ble_eq_true rfl) dX11_writeGraph_74 rfl (fun h1 => ?_)
  refine z_aload_n 78 0 dX11_writeGraph_77 rfl rfl ?_
  refine z_bipush (nI 97) 80 zkb_97 dX11_writeGraph_78 rfl ?_
  refine z_iload 82 4 dX11_writeGraph_80 rfl rfl ?_
  refine z_iadd 83 dX11_writeGraph_82 rfl ?_
  refine z_callVv 86 (mX11_sign b0 x0 ((nI 97) + x4) h1) zyX11_sign rfl w_1223 (ci := 11) rfl (Nat.le_of_ble_eq_true rfl) (fun _ e9 => kX11_sign e9) wm_yX11_sign ws_yX11_sign (Nat.le_of_ble_eq_true rfl) rfl (Nat.le_of_ble_eq_true rfl) dX11_writeGraph_83 rfl (fun h2 => ?_)
  refine z_aload_n 87 0 dX11_writeGraph_86 rfl rfl ?_
  refine z_bipush (nI 48) 89 zkb_48 dX11_writeGraph_87 rfl ?_
  refine z_iload_n 90 2 dX11_writeGraph_89 rfl rfl ?_
  refine z_bipush (nI 8) 92 zkb_8 dX11_writeGraph_90 rfl ?_
  refine z_irem 93 dX11_writeGraph_92 rfl (fun _ => ?_)
  refine z_iadd 94 dX11_writeGraph_93 rfl ?_
  refine z_callVv 97 (mX11_sign b0 x0 ((nI 48) + (jrem x2 (nI 8))) h2) zyX11_sign rfl w_1223 (ci := 11) rfl (Nat.le_of_ble_eq_true rfl) (fun _ e9 => kX11_sign e9) wm_yX11_sign ws_yX11_sign (Nat.le_of_ble_eq_true rfl) rfl (Nat.le_of_ble_eq_true rfl) dX11_writeGraph_94 rfl (fun h3 => ?_)
  exact z_sub [0, 1, 2] rfl (BX11_writeGraph_97 b0 self17 x0 x1 x2 h3 hself17)
def kX11_writeGraph_17 (x0 : Nat) (x1 : Int32) (self17 : Int32 × ZH → Option (Int32 × ZH)) (x2 : Int32) (h : ZH) : Option (Int32 × ZH) :=
  if (nI 256) ≤ x2 then ((gI h 11 x0 10).bind fun v2 =>
  some (v2, h)) else
  (if (nI 32) = 0 then none else
  zl (x2 / (nI 32)) fun v3 =>
  if (nI 8) = 0 then none else
  if (nI 4) = 0 then none else
  zl (jrem (x2 / (nI 8)) (nI 4)) fun v4 =>
  (fX11_to x0 x1 v3 v4 h).bind fun q5 =>
  if (nI 8) = 0 then none else
  if ((jshr q5.1 (jrem x2 (nI 8))) &&& (nI 1)) = (nI 1) then ((gI q5.2 11 x0 10).bind fun v7 =>
  if v7 ≤ 0 then (bX11_writeGraph_69 self17 x0 x1 x2 v3 v4 q5.2) else
  ((fX11_sign x0 (nI 59) q5.2).bind fun h9 =>
  bX11_writeGraph_69 self17 x0 x1 x2 v3 v4 h9)) else
  (bX11_writeGraph_97 self17 x0 x1 x2 q5.2))
def lX11_writeGraph_17 (x0 : Nat) (x1 : Int32) : (Int32 × ZH → Option (Int32 × ZH)) → Int32 × ZH → Option (Int32 × ZH) := fun self s => kX11_writeGraph_17 x0 x1 self s.1 s.2
theorem KX11_writeGraph_17 (b0 : Nat) (x0 : Nat) (x1 : Int32) (self17 : Int32 × ZH → Option (Int32 × ZH)) (hself17 : ∀ (y2 : Int32) (hh : ZH), Zr zi b0 YX11_writeGraph 3 17 [(0, .ref (b0 + x0)), (1, .int x1), (2, .int y2)] [] hh (self17 (y2, hh))) (x2 : Int32) (h : ZH) : Zr zi b0 YX11_writeGraph 3 17 [(0, .ref (b0 + x0)), (1, .int x1), (2, .int x2)] [] h (kX11_writeGraph_17 x0 x1 self17 x2 h) := by
  unfold kX11_writeGraph_17
  refine z_iload_n 18 2 dX11_writeGraph_17 rfl rfl ?_
  refine z_sipush (nI 256) 21 zks_256 dX11_writeGraph_18 rfl ?_
  refine z_icmp_ge 103 24 dX11_writeGraph_21 (by decide) rfl (fun c1 => ?_) (fun c1 => ?_)
  · refine z_aload_n 104 0 dX11_writeGraph_103 rfl rfl ?_
    refine z_getI 107 zC11 (Nat.le_of_ble_eq_true rfl) rfl w_1027 dX11_writeGraph_104 rfl (fun v2 _ => ?_)
    exact z_ireturn dX11_writeGraph_107 rfl
  · refine z_iload_n 25 2 dX11_writeGraph_24 rfl rfl ?_
    refine z_bipush (nI 32) 27 zkb_32 dX11_writeGraph_25 rfl ?_
    refine z_idiv 28 dX11_writeGraph_27 rfl (fun _ => ?_)
    refine z_letI (fun v3 _ => ?_)
    refine z_istore_n (lv2 := [(3, .int v3), (0, .ref (b0 + x0)), (1, .int x1), (2, .int x2)]) 29 dX11_writeGraph_28 rfl (Nat.le_of_ble_eq_true rfl) rfl ?_
    refine z_iload_n 30 3 dX11_writeGraph_29 rfl rfl ?_
    refine z_bipush (nI 8) 32 zkb_8 dX11_writeGraph_30 rfl ?_
    refine z_idiv 33 dX11_writeGraph_32 rfl (fun _ => ?_)
    refine z_iconst (nI 4) 34 zki_4 dX11_writeGraph_33 rfl ?_
    refine z_irem 35 dX11_writeGraph_34 rfl (fun _ => ?_)
    refine z_letI (fun v4 _ => ?_)
    refine z_istore (lv2 := [(4, .int v4), (3, .int v3), (0, .ref (b0 + x0)), (1, .int x1), (2, .int x2)]) 37 dX11_writeGraph_35 rfl (Nat.le_of_ble_eq_true rfl) rfl ?_
    refine z_aload_n 38 2 dX11_writeGraph_37 rfl rfl ?_
    refine z_iload_n 39 3 dX11_writeGraph_38 rfl rfl ?_
    refine z_iload_n 40 1 dX11_writeGraph_39 rfl rfl ?_
    refine z_iload 42 0 dX11_writeGraph_40 rfl rfl ?_
    refine z_callVi 45 (mX11_to b0 x0 x1 v3 v4 h) zyX11_to rfl w_1183 (ci := 11) rfl (Nat.le_of_ble_eq_true rfl) (fun _ e9 => kX11_to e9) wm_yX11_to ws_yX11_to (Nat.le_of_ble_eq_true rfl) rfl (Nat.le_of_ble_eq_true rfl) dX11_writeGraph_42 rfl (fun q5 => ?_)
    refine z_iload_n 46 4 dX11_writeGraph_45 rfl rfl ?_
    refine z_bipush (nI 8) 48 zkb_8 dX11_writeGraph_46 rfl ?_
    refine z_irem 49 dX11_writeGraph_48 rfl (fun _ => ?_)
    refine z_ishr 50 dX11_writeGraph_49 rfl ?_
    refine z_iconst (nI 1) 51 zki_1 dX11_writeGraph_50 rfl ?_
    refine z_iand 52 dX11_writeGraph_51 rfl ?_
    refine z_iconst (nI 1) 53 zki_1 dX11_writeGraph_52 rfl ?_
    refine z_icmp_ne 97 56 dX11_writeGraph_53 (by decide) rfl (fun c6 => ?_) (fun c6 => ?_)
    · exact z_sub [2, 3, 4] rfl (BX11_writeGraph_97 b0 self17 x0 x1 x2 q5.2 hself17)
    · refine z_aload_n 57 2 dX11_writeGraph_56 rfl rfl ?_
      refine z_getI 60 zC11 (Nat.le_of_ble_eq_true rfl) rfl w_1027 dX11_writeGraph_57 rfl (fun v7 _ => ?_)
      refine z_if_le 69 63 dX11_writeGraph_60 (by decide) rfl (fun c8 => ?_) (fun c8 => ?_)
      · exact z_sub [2, 3, 4, 1, 0] rfl (BX11_writeGraph_69 b0 self17 x0 x1 x2 v3 v4 q5.2 hself17)
      · refine z_aload_n 64 2 dX11_writeGraph_63 rfl rfl ?_
        refine z_bipush (nI 59) 66 zkb_59 dX11_writeGraph_64 rfl ?_
        refine z_callVv 69 (mX11_sign b0 x0 (nI 59) q5.2) zyX11_sign rfl w_1223 (ci := 11) rfl (Nat.le_of_ble_eq_true rfl) (fun _ e9 => kX11_sign e9) wm_yX11_sign ws_yX11_sign (Nat.le_of_ble_eq_true rfl) rfl (Nat.le_of_ble_eq_true rfl) dX11_writeGraph_66 rfl (fun h9 => ?_)
        exact z_sub [2, 3, 4, 1, 0] rfl (BX11_writeGraph_69 b0 self17 x0 x1 x2 v3 v4 h9 hself17)
theorem BX11_writeGraph_17 (b0 : Nat) (x0 : Nat) (x1 : Int32) (n : Nat) (x2 : Int32) (h : ZH) : Zr zi b0 YX11_writeGraph 3 17 [(0, .ref (b0 + x0)), (1, .int x1), (2, .int x2)] [] h (zloop (lX11_writeGraph_17 x0 x1) n (x2, h)) :=
  zloop_Zr (fun s => [(0, .ref (b0 + x0)), (1, .int x1), (2, .int s.1)]) (fun _ => []) (fun s => s.2) (lX11_writeGraph_17 x0 x1) (fun self hs s => KX11_writeGraph_17 b0 x0 x1 self (fun y2 hh => hs (y2, hh)) s.1 s.2) n (x2, h)
def fX11_writeGraph (x0 : Nat) (x1 : Int32) (h : ZH) : Option (Int32 × ZH) :=
  if x0 < zn h ∧ zK h x0 = 11 then ((fX11_isSlot x1 h).bind fun q1 =>
  if q1.1 = 0 then (some ((-2 : Int32), q1.2)) else
  ((pI q1.2 11 x0 10 (nI 0)).bind fun h3 =>
  zloop (lX11_writeGraph_17 x0 x1) zfu ((nI 0), h3))) else none
theorem kX11_writeGraph {x0 : Nat} {x1 : Int32} {h : ZH} {x : Int32 × ZH} (e : fX11_writeGraph x0 x1 h = some x) : x0 < zn h ∧ zK h x0 = 11 := by
  unfold fX11_writeGraph at e
  exact zguard e
theorem mX11_writeGraph (b0 : Nat) (x0 : Nat) (x1 : Int32) (h : ZH) : ZM zi b0 YX11_writeGraph 3 [.ref (b0 + x0), .int x1] h (fX11_writeGraph x0 x1 h) := by
  unfold fX11_writeGraph
  refine ZM.of (by decide) rfl (Nat.le_of_ble_eq_true rfl) (fun _ => trivial) ?_
  refine z_sub (lv2 := [(0, .ref (b0 + x0)), (1, .int x1)]) [0, 1] rfl ?_
  refine z_guard (fun _ => ?_)
  refine z_iload_n 1 1 dX11_writeGraph_0 rfl rfl ?_
  refine z_callSi 4 (mX11_isSlot b0 x1 h) zyX11_isSlot rfl w_1154 wt_yX11_isSlot (Nat.le_of_ble_eq_true rfl) rfl (Nat.le_of_ble_eq_true rfl) dX11_writeGraph_1 rfl (fun q1 => ?_)
  refine z_if_ne 10 7 dX11_writeGraph_4 (by decide) rfl (fun c2 => ?_) (fun c2 => ?_)
  · refine z_aload_n 11 0 dX11_writeGraph_10 rfl rfl ?_
    refine z_iconst (nI 0) 12 zki_0 dX11_writeGraph_11 rfl ?_
    refine z_putI 15 zC11 (Nat.le_of_ble_eq_true rfl) rfl rfl rfl w_1027 dX11_writeGraph_12 rfl (fun h3 _ => ?_)
    refine z_iconst (nI 0) 16 zki_0 dX11_writeGraph_15 rfl ?_
    refine z_istore_n (lv2 := [(2, .int (nI 0)), (0, .ref (b0 + x0)), (1, .int x1)]) 17 dX11_writeGraph_16 rfl (Nat.le_of_ble_eq_true rfl) rfl ?_
    exact z_sub [1, 2, 0] rfl (BX11_writeGraph_17 b0 x0 x1 zfu (nI 0) h3)
  · refine z_bipush (-2 : Int32) 9 zkb_m2 dX11_writeGraph_7 rfl ?_
    exact z_ireturn dX11_writeGraph_9 rfl
-- X11_unionOf
def fX11_unionOf (x0 : Nat) (x1 : Int32) (x2 : Int32) (h : ZH) : Option (Int32 × ZH) :=
  if x0 < zn h ∧ zK h x0 = 11 then ((fX11_to x0 x1 x2 (nI 0) h).bind fun q1 =>
  (fX11_to x0 x1 x2 (nI 1) q1.2).bind fun q2 =>
  (fX11_to x0 x1 x2 (nI 2) q2.2).bind fun q3 =>
  (fX11_to x0 x1 x2 (nI 3) q3.2).bind fun q4 =>
  some ((((q1.1 ||| q2.1) ||| q3.1) ||| q4.1), q4.2)) else none
theorem kX11_unionOf {x0 : Nat} {x1 : Int32} {x2 : Int32} {h : ZH} {x : Int32 × ZH} (e : fX11_unionOf x0 x1 x2 h = some x) : x0 < zn h ∧ zK h x0 = 11 := by
  unfold fX11_unionOf at e
  exact zguard e
theorem mX11_unionOf (b0 : Nat) (x0 : Nat) (x1 : Int32) (x2 : Int32) (h : ZH) : ZM zi b0 YX11_unionOf 2 [.ref (b0 + x0), .int x1, .int x2] h (fX11_unionOf x0 x1 x2 h) := by
  unfold fX11_unionOf
  refine ZM.of (by decide) rfl (Nat.le_of_ble_eq_true rfl) (fun _ => trivial) ?_
  refine z_sub (lv2 := [(0, .ref (b0 + x0)), (1, .int x1), (2, .int x2)]) [0, 1, 2] rfl ?_
  refine z_guard (fun _ => ?_)
  refine z_aload_n 1 0 dX11_unionOf_0 rfl rfl ?_
  refine z_iload_n 2 1 dX11_unionOf_1 rfl rfl ?_
  refine z_iload_n 3 2 dX11_unionOf_2 rfl rfl ?_
  refine z_iconst (nI 0) 4 zki_0 dX11_unionOf_3 rfl ?_
  refine z_callVi 7 (mX11_to b0 x0 x1 x2 (nI 0) h) zyX11_to rfl w_1183 (ci := 11) rfl (Nat.le_of_ble_eq_true rfl) (fun _ e9 => kX11_to e9) wm_yX11_to ws_yX11_to (Nat.le_of_ble_eq_true rfl) rfl (Nat.le_of_ble_eq_true rfl) dX11_unionOf_4 rfl (fun q1 => ?_)
  refine z_aload_n 8 0 dX11_unionOf_7 rfl rfl ?_
  refine z_iload_n 9 1 dX11_unionOf_8 rfl rfl ?_
  refine z_iload_n 10 2 dX11_unionOf_9 rfl rfl ?_
  refine z_iconst (nI 1) 11 zki_1 dX11_unionOf_10 rfl ?_
  refine z_callVi 14 (mX11_to b0 x0 x1 x2 (nI 1) q1.2) zyX11_to rfl w_1183 (ci := 11) rfl (Nat.le_of_ble_eq_true rfl) (fun _ e9 => kX11_to e9) wm_yX11_to ws_yX11_to (Nat.le_of_ble_eq_true rfl) rfl (Nat.le_of_ble_eq_true rfl) dX11_unionOf_11 rfl (fun q2 => ?_)
  refine z_ior 15 dX11_unionOf_14 rfl ?_
  refine z_aload_n 16 0 dX11_unionOf_15 rfl rfl ?_
  refine z_iload_n 17 1 dX11_unionOf_16 rfl rfl ?_
  refine z_iload_n 18 2 dX11_unionOf_17 rfl rfl ?_
  refine z_iconst (nI 2) 19 zki_2 dX11_unionOf_18 rfl ?_
  refine z_callVi 22 (mX11_to b0 x0 x1 x2 (nI 2) q2.2) zyX11_to rfl w_1183 (ci := 11) rfl (Nat.le_of_ble_eq_true rfl) (fun _ e9 => kX11_to e9) wm_yX11_to ws_yX11_to (Nat.le_of_ble_eq_true rfl) rfl (Nat.le_of_ble_eq_true rfl) dX11_unionOf_19 rfl (fun q3 => ?_)
  refine z_ior 23 dX11_unionOf_22 rfl ?_
  refine z_aload_n 24 0 dX11_unionOf_23 rfl rfl ?_
  refine z_iload_n 25 1 dX11_unionOf_24 rfl rfl ?_
  refine z_iload_n 26 2 dX11_unionOf_25 rfl rfl ?_
  refine z_iconst (nI 3) 27 zki_3 dX11_unionOf_26 rfl ?_
  refine z_callVi 30 (mX11_to b0 x0 x1 x2 (nI 3) q3.2) zyX11_to rfl w_1183 (ci := 11) rfl (Nat.le_of_ble_eq_true rfl) (fun _ e9 => kX11_to e9) wm_yX11_to ws_yX11_to (Nat.le_of_ble_eq_true rfl) rfl (Nat.le_of_ble_eq_true rfl) dX11_unionOf_27 rfl (fun q4 => ?_)
  refine z_ior 31 dX11_unionOf_30 rfl ?_
  exact z_ireturn dX11_unionOf_31 rfl
-- X11_essentialOf
def bX11_essentialOf_76 (self6 : Int32 × Int32 × ZH → Option (Int32 × ZH)) (self22 : Int32 × Int32 × Int32 × ZH → Option (Int32 × ZH)) (x0 : Nat) (x1 : Int32) (x2 : Int32) (x3 : Int32) (x4 : Int32) (x5 : Int32) (x6 : Int32) (h : ZH) : Option (Int32 × ZH) :=
  self22 (x4, x5, (x6 + (nI 1)), h)
theorem BX11_essentialOf_76 (b0 : Nat) (self6 : Int32 × Int32 × ZH → Option (Int32 × ZH)) (self22 : Int32 × Int32 × Int32 × ZH → Option (Int32 × ZH)) (x0 : Nat) (x1 : Int32) (x2 : Int32) (x3 : Int32) (x4 : Int32) (x5 : Int32) (x6 : Int32) (h : ZH) (hself6 : ∀ (y2 : Int32) (y3 : Int32) (hh : ZH), Zr zi b0 YX11_essentialOf 3 6 [(0, .ref (b0 + x0)), (1, .int x1), (2, .int y2), (3, .int y3)] [] hh (self6 (y2, y3, hh))) (hself22 : ∀ (y4 : Int32) (y5 : Int32) (y6 : Int32) (hh : ZH), Zr zi b0 YX11_essentialOf 3 22 [(0, .ref (b0 + x0)), (1, .int x1), (2, .int x2), (3, .int x3), (4, .int y4), (5, .int y5), (6, .int y6)] [] hh (self22 (y4, y5, y6, hh))) : Zr zi b0 YX11_essentialOf 3 76 [(0, .ref (b0 + x0)), (1, .int x1), (2, .int x2), (3, .int x3), (4, .int x4), (5, .int x5), (6, .int x6)] [] h (bX11_essentialOf_76 self6 self22 x0 x1 x2 x3 x4 x5 x6 h) := by
  unfold bX11_essentialOf_76
  refine z_iinc (lv2 := [(6, .int (x6 + (nI 1))), (0, .ref (b0 + x0)), (1, .int x1), (2, .int x2), (3, .int x3), (4, .int x4), (5, .int x5)]) (nI 1) 79 6 dX11_essentialOf_76 rfl rfl zki_1 (Nat.le_of_ble_eq_true rfl) rfl ?_
  refine z_goto 22 dX11_essentialOf_79 (by decide) ?_
  exact z_sub [1, 2, 3, 4, 5, 6, 0] rfl (hself22 x4 x5 (x6 + (nI 1)) h)
def bX11_essentialOf_73 (self6 : Int32 × Int32 × ZH → Option (Int32 × ZH)) (self22 : Int32 × Int32 × Int32 × ZH → Option (Int32 × ZH)) (x0 : Nat) (x1 : Int32) (x2 : Int32) (x3 : Int32) (x4 : Int32) (x6 : Int32) (t0 : Int32) (t1 : Int32) (h : ZH) : Option (Int32 × ZH) :=
  zl (t1 ||| t0) fun v1 =>
  bX11_essentialOf_76 self6 self22 x0 x1 x2 x3 x4 v1 x6 h
theorem BX11_essentialOf_73 (b0 : Nat) (self6 : Int32 × Int32 × ZH → Option (Int32 × ZH)) (self22 : Int32 × Int32 × Int32 × ZH → Option (Int32 × ZH)) (x0 : Nat) (x1 : Int32) (x2 : Int32) (x3 : Int32) (x4 : Int32) (x6 : Int32) (t0 : Int32) (t1 : Int32) (h : ZH) (hself6 : ∀ (y2 : Int32) (y3 : Int32) (hh : ZH), Zr zi b0 YX11_essentialOf 3 6 [(0, .ref (b0 + x0)), (1, .int x1), (2, .int y2), (3, .int y3)] [] hh (self6 (y2, y3, hh))) (hself22 : ∀ (y4 : Int32) (y5 : Int32) (y6 : Int32) (hh : ZH), Zr zi b0 YX11_essentialOf 3 22 [(0, .ref (b0 + x0)), (1, .int x1), (2, .int x2), (3, .int x3), (4, .int y4), (5, .int y5), (6, .int y6)] [] hh (self22 (y4, y5, y6, hh))) : Zr zi b0 YX11_essentialOf 3 73 [(0, .ref (b0 + x0)), (1, .int x1), (2, .int x2), (3, .int x3), (4, .int x4), (6, .int x6)] [.int t0, .int t1] h (bX11_essentialOf_73 self6 self22 x0 x1 x2 x3 x4 x6 t0 t1 h) := by
  unfold bX11_essentialOf_73
  refine z_ior 74 dX11_essentialOf_73 rfl ?_
  refine z_letI (fun v1 _ => ?_)
  refine z_istore (lv2 := [(5, .int v1), (0, .ref (b0 + x0)), (1, .int x1), (2, .int x2), (3, .int x3), (4, .int x4), (6, .int x6)]) 76 dX11_essentialOf_74 rfl (Nat.le_of_ble_eq_true rfl) rfl ?_
  exact z_sub [1, 2, 3, 4, 5, 0, 6] rfl (BX11_essentialOf_76 b0 self6 self22 x0 x1 x2 x3 x4 v1 x6 h hself6 hself22)
def kX11_essentialOf_22 (self6 : Int32 × Int32 × ZH → Option (Int32 × ZH)) (x0 : Nat) (x1 : Int32) (x2 : Int32) (x3 : Int32) (self22 : Int32 × Int32 × Int32 × ZH → Option (Int32 × ZH)) (x4 : Int32) (x5 : Int32) (x6 : Int32) (h : ZH) : Option (Int32 × ZH) :=
  if (nI 8) ≤ x6 then (zl (x2 &&& (x4 &&& x5)) fun v2 =>
  self6 (v2, x3, h)) else
  (if ((jshr x2 x6) &&& (nI 1)) = (nI 1) then ((fX11_unionOf x0 x1 x6 h).bind fun q4 =>
  zl (x4 ||| q4.1) fun v5 =>
  (fX11_unionOf x0 x1 x6 q4.2).bind fun q6 =>
  if (q6.1 &&& x2) = 0 then (bX11_essentialOf_73 self6 self22 x0 x1 x2 x3 v5 x6 (nI 0) x5 q6.2) else
  (bX11_essentialOf_73 self6 self22 x0 x1 x2 x3 v5 x6 (jshl (nI 1) x6) x5 q6.2)) else
  (bX11_essentialOf_76 self6 self22 x0 x1 x2 x3 x4 x5 x6 h))
def lX11_essentialOf_22 (self6 : Int32 × Int32 × ZH → Option (Int32 × ZH)) (x0 : Nat) (x1 : Int32) (x2 : Int32) (x3 : Int32) : (Int32 × Int32 × Int32 × ZH → Option (Int32 × ZH)) → Int32 × Int32 × Int32 × ZH → Option (Int32 × ZH) := fun self s => kX11_essentialOf_22 self6 x0 x1 x2 x3 self s.1 s.2.1 s.2.2.1 s.2.2.2
theorem KX11_essentialOf_22 (b0 : Nat) (self6 : Int32 × Int32 × ZH → Option (Int32 × ZH)) (x0 : Nat) (x1 : Int32) (x2 : Int32) (x3 : Int32) (hself6 : ∀ (y2 : Int32) (y3 : Int32) (hh : ZH), Zr zi b0 YX11_essentialOf 3 6 [(0, .ref (b0 + x0)), (1, .int x1), (2, .int y2), (3, .int y3)] [] hh (self6 (y2, y3, hh))) (self22 : Int32 × Int32 × Int32 × ZH → Option (Int32 × ZH)) (hself22 : ∀ (y4 : Int32) (y5 : Int32) (y6 : Int32) (hh : ZH), Zr zi b0 YX11_essentialOf 3 22 [(0, .ref (b0 + x0)), (1, .int x1), (2, .int x2), (3, .int x3), (4, .int y4), (5, .int y5), (6, .int y6)] [] hh (self22 (y4, y5, y6, hh))) (x4 : Int32) (x5 : Int32) (x6 : Int32) (h : ZH) : Zr zi b0 YX11_essentialOf 3 22 [(0, .ref (b0 + x0)), (1, .int x1), (2, .int x2), (3, .int x3), (4, .int x4), (5, .int x5), (6, .int x6)] [] h (kX11_essentialOf_22 self6 x0 x1 x2 x3 self22 x4 x5 x6 h) := by
  unfold kX11_essentialOf_22
  refine z_iload 24 6 dX11_essentialOf_22 rfl rfl ?_
  refine z_bipush (nI 8) 26 zkb_8 dX11_essentialOf_24 rfl ?_
  refine z_icmp_ge 82 29 dX11_essentialOf_26 (by decide) rfl (fun c1 => ?_) (fun c1 => ?_)
  · refine z_iload_n 83 2 dX11_essentialOf_82 rfl rfl ?_
    refine z_iload 85 4 dX11_essentialOf_83 rfl rfl ?_
    refine z_iload 87 5 dX11_essentialOf_85 rfl rfl ?_
    refine z_iand 88 dX11_essentialOf_87 rfl ?_
    refine z_iand 89 dX11_essentialOf_88 rfl ?_
    refine z_letI (fun v2 _ => ?_)
    refine z_istore_n (lv2 := [(2, .int v2), (0, .ref (b0 + x0)), (1, .int x1), (3, .int x3), (4, .int x4), (5, .int x5), (6, .int x6)]) 90 dX11_essentialOf_89 rfl (Nat.le_of_ble_eq_true rfl) rfl ?_
    refine z_goto 6 dX11_essentialOf_90 (by decide) ?_
    exact z_sub [1, 2, 0, 3] rfl (hself6 v2 x3 h)
  · refine z_iload_n 30 2 dX11_essentialOf_29 rfl rfl ?_
    refine z_iload 32 6 dX11_essentialOf_30 rfl rfl ?_
    refine z_ishr 33 dX11_essentialOf_32 rfl ?_
    refine z_iconst (nI 1) 34 zki_1 dX11_essentialOf_33 rfl ?_
    refine z_iand 35 dX11_essentialOf_34 rfl ?_
    refine z_iconst (nI 1) 36 zki_1 dX11_essentialOf_35 rfl ?_
    refine z_icmp_ne 76 39 dX11_essentialOf_36 (by decide) rfl (fun c3 => ?_) (fun c3 => ?_)
    · exact z_sub [0, 1, 2, 3, 4, 5, 6] rfl (BX11_essentialOf_76 b0 self6 self22 x0 x1 x2 x3 x4 x5 x6 h hself6 hself22)
    · refine z_iload 41 4 dX11_essentialOf_39 rfl rfl ?_
      refine z_aload_n 42 0 dX11_essentialOf_41 rfl rfl ?_
      refine z_iload_n 43 1 dX11_essentialOf_42 rfl rfl ?_
      refine z_iload 45 6 dX11_essentialOf_43 rfl rfl ?_
      refine z_callVi 48 (mX11_unionOf b0 x0 x1 x6 h) zyX11_unionOf rfl w_1235 (ci := 11) rfl (Nat.le_of_ble_eq_true rfl) (fun _ e9 => kX11_unionOf e9) wm_yX11_unionOf ws_yX11_unionOf (Nat.le_of_ble_eq_true rfl) rfl (Nat.le_of_ble_eq_true rfl) dX11_essentialOf_45 rfl (fun q4 => ?_)
      refine z_ior 49 dX11_essentialOf_48 rfl ?_
      refine z_letI (fun v5 _ => ?_)
      refine z_istore (lv2 := [(4, .int v5), (0, .ref (b0 + x0)), (1, .int x1), (2, .int x2), (3, .int x3), (5, .int x5), (6, .int x6)]) 51 dX11_essentialOf_49 rfl (Nat.le_of_ble_eq_true rfl) rfl ?_
      refine z_iload 53 5 dX11_essentialOf_51 rfl rfl ?_
      refine z_aload_n 54 1 dX11_essentialOf_53 rfl rfl ?_
      refine z_iload_n 55 2 dX11_essentialOf_54 rfl rfl ?_
      refine z_iload 57 6 dX11_essentialOf_55 rfl rfl ?_
      refine z_callVi 60 (mX11_unionOf b0 x0 x1 x6 q4.2) zyX11_unionOf rfl w_1235 (ci := 11) rfl (Nat.le_of_ble_eq_true rfl) (fun _ e9 => kX11_unionOf e9) wm_yX11_unionOf ws_yX11_unionOf (Nat.le_of_ble_eq_true rfl) rfl (Nat.le_of_ble_eq_true rfl) dX11_essentialOf_57 rfl (fun q6 => ?_)
      refine z_iload_n 61 3 dX11_essentialOf_60 rfl rfl ?_
      refine z_iand 62 dX11_essentialOf_61 rfl ?_
      refine z_if_eq 72 65 dX11_essentialOf_62 (by decide) rfl (fun c7 => ?_) (fun c7 => ?_)
      · refine z_iconst (nI 0) 73 zki_0 dX11_essentialOf_72 rfl ?_
        exact z_sub [1, 2, 3, 4, 0, 6] rfl (BX11_essentialOf_73 b0 self6 self22 x0 x1 x2 x3 v5 x6 (nI 0) x5 q6.2 hself6 hself22)
      · refine z_iconst (nI 1) 66 zki_1 dX11_essentialOf_65 rfl ?_
        refine z_iload 68 6 dX11_essentialOf_66 rfl rfl ?_
        refine z_ishl 69 dX11_essentialOf_68 rfl ?_
        refine z_goto 73 dX11_essentialOf_69 (by decide) ?_
        exact z_sub [1, 2, 3, 4, 0, 6] rfl (BX11_essentialOf_73 b0 self6 self22 x0 x1 x2 x3 v5 x6 (jshl (nI 1) x6) x5 q6.2 hself6 hself22)
theorem BX11_essentialOf_22 (b0 : Nat) (self6 : Int32 × Int32 × ZH → Option (Int32 × ZH)) (x0 : Nat) (x1 : Int32) (x2 : Int32) (x3 : Int32) (hself6 : ∀ (y2 : Int32) (y3 : Int32) (hh : ZH), Zr zi b0 YX11_essentialOf 3 6 [(0, .ref (b0 + x0)), (1, .int x1), (2, .int y2), (3, .int y3)] [] hh (self6 (y2, y3, hh))) (n : Nat) (x4 : Int32) (x5 : Int32) (x6 : Int32) (h : ZH) : Zr zi b0 YX11_essentialOf 3 22 [(0, .ref (b0 + x0)), (1, .int x1), (2, .int x2), (3, .int x3), (4, .int x4), (5, .int x5), (6, .int x6)] [] h (zloop (lX11_essentialOf_22 self6 x0 x1 x2 x3) n (x4, x5, x6, h)) :=
  zloop_Zr (fun s => [(0, .ref (b0 + x0)), (1, .int x1), (2, .int x2), (3, .int x3), (4, .int s.1), (5, .int s.2.1), (6, .int s.2.2.1)]) (fun _ => []) (fun s => s.2.2.2) (lX11_essentialOf_22 self6 x0 x1 x2 x3) (fun self hs s => KX11_essentialOf_22 b0 self6 x0 x1 x2 x3 hself6 self (fun y4 y5 y6 hh => hs (y4, y5, y6, hh)) s.1 s.2.1 s.2.2.1 s.2.2.2) n (x4, x5, x6, h)
def kX11_essentialOf_6 (x0 : Nat) (x1 : Int32) (self6 : Int32 × Int32 × ZH → Option (Int32 × ZH)) (x2 : Int32) (x3 : Int32) (h : ZH) : Option (Int32 × ZH) :=
  if x2 = x3 then (some (x2, h)) else
  (zloop (lX11_essentialOf_22 self6 x0 x1 x2 x2) zfu ((nI 0), (nI 0), (nI 0), h))
def lX11_essentialOf_6 (x0 : Nat) (x1 : Int32) : (Int32 × Int32 × ZH → Option (Int32 × ZH)) → Int32 × Int32 × ZH → Option (Int32 × ZH) := fun self s => kX11_essentialOf_6 x0 x1 self s.1 s.2.1 s.2.2
theorem KX11_essentialOf_6 (b0 : Nat) (x0 : Nat) (x1 : Int32) (self6 : Int32 × Int32 × ZH → Option (Int32 × ZH)) (hself6 : ∀ (y2 : Int32) (y3 : Int32) (hh : ZH), Zr zi b0 YX11_essentialOf 3 6 [(0, .ref (b0 + x0)), (1, .int x1), (2, .int y2), (3, .int y3)] [] hh (self6 (y2, y3, hh))) (x2 : Int32) (x3 : Int32) (h : ZH) : Zr zi b0 YX11_essentialOf 3 6 [(0, .ref (b0 + x0)), (1, .int x1), (2, .int x2), (3, .int x3)] [] h (kX11_essentialOf_6 x0 x1 self6 x2 x3 h) := by
  unfold kX11_essentialOf_6
  refine z_iload_n 7 2 dX11_essentialOf_6 rfl rfl ?_
  refine z_iload_n 8 3 dX11_essentialOf_7 rfl rfl ?_
  refine z_icmp_eq 93 11 dX11_essentialOf_8 (by decide) rfl (fun c1 => ?_) (fun c1 => ?_)
  · refine z_iload_n 94 2 dX11_essentialOf_93 rfl rfl ?_
    exact z_ireturn dX11_essentialOf_94 rfl
  · refine z_iload_n 12 2 dX11_essentialOf_11 rfl rfl ?_
    refine z_istore_n (lv2 := [(3, .int x2), (0, .ref (b0 + x0)), (1, .int x1), (2, .int x2)]) 13 dX11_essentialOf_12 rfl (Nat.le_of_ble_eq_true rfl) rfl ?_
    refine z_iconst (nI 0) 14 zki_0 dX11_essentialOf_13 rfl ?_
    refine z_istore (lv2 := [(4, .int (nI 0)), (3, .int x2), (0, .ref (b0 + x0)), (1, .int x1), (2, .int x2)]) 16 dX11_essentialOf_14 rfl (Nat.le_of_ble_eq_true rfl) rfl ?_
    refine z_iconst (nI 0) 17 zki_0 dX11_essentialOf_16 rfl ?_
    refine z_istore (lv2 := [(5, .int (nI 0)), (4, .int (nI 0)), (3, .int x2), (0, .ref (b0 + x0)), (1, .int x1), (2, .int x2)]) 19 dX11_essentialOf_17 rfl (Nat.le_of_ble_eq_true rfl) rfl ?_
    refine z_iconst (nI 0) 20 zki_0 dX11_essentialOf_19 rfl ?_
    refine z_istore (lv2 := [(6, .int (nI 0)), (5, .int (nI 0)), (4, .int (nI 0)), (3, .int x2), (0, .ref (b0 + x0)), (1, .int x1), (2, .int x2)]) 22 dX11_essentialOf_20 rfl (Nat.le_of_ble_eq_true rfl) rfl ?_
    exact z_sub [4, 5, 6, 3, 2, 1, 0] rfl (BX11_essentialOf_22 b0 self6 x0 x1 x2 x2 hself6 zfu (nI 0) (nI 0) (nI 0) h)
theorem BX11_essentialOf_6 (b0 : Nat) (x0 : Nat) (x1 : Int32) (n : Nat) (x2 : Int32) (x3 : Int32) (h : ZH) : Zr zi b0 YX11_essentialOf 3 6 [(0, .ref (b0 + x0)), (1, .int x1), (2, .int x2), (3, .int x3)] [] h (zloop (lX11_essentialOf_6 x0 x1) n (x2, x3, h)) :=
  zloop_Zr (fun s => [(0, .ref (b0 + x0)), (1, .int x1), (2, .int s.1), (3, .int s.2.1)]) (fun _ => []) (fun s => s.2.2) (lX11_essentialOf_6 x0 x1) (fun self hs s => KX11_essentialOf_6 b0 x0 x1 self (fun y2 y3 hh => hs (y2, y3, hh)) s.1 s.2.1 s.2.2) n (x2, x3, h)
def fX11_essentialOf (x0 : Nat) (x1 : Int32) (h : ZH) : Option (Int32 × ZH) :=
  if x0 < zn h ∧ zK h x0 = 11 then (zloop (lX11_essentialOf_6 x0 x1) zfu ((nI 255), (nI 0), h)) else none
theorem kX11_essentialOf {x0 : Nat} {x1 : Int32} {h : ZH} {x : Int32 × ZH} (e : fX11_essentialOf x0 x1 h = some x) : x0 < zn h ∧ zK h x0 = 11 := by
  unfold fX11_essentialOf at e
  exact zguard e
theorem mX11_essentialOf (b0 : Nat) (x0 : Nat) (x1 : Int32) (h : ZH) : ZM zi b0 YX11_essentialOf 3 [.ref (b0 + x0), .int x1] h (fX11_essentialOf x0 x1 h) := by
  unfold fX11_essentialOf
  refine ZM.of (by decide) rfl (Nat.le_of_ble_eq_true rfl) (fun _ => trivial) ?_
  refine z_sub (lv2 := [(0, .ref (b0 + x0)), (1, .int x1)]) [0, 1] rfl ?_
  refine z_guard (fun _ => ?_)
  refine z_sipush (nI 255) 3 zks_255 dX11_essentialOf_0 rfl ?_
  refine z_istore_n (lv2 := [(2, .int (nI 255)), (0, .ref (b0 + x0)), (1, .int x1)]) 4 dX11_essentialOf_3 rfl (Nat.le_of_ble_eq_true rfl) rfl ?_
  refine z_iconst (nI 0) 5 zki_0 dX11_essentialOf_4 rfl ?_
  refine z_istore_n (lv2 := [(3, .int (nI 0)), (2, .int (nI 255)), (0, .ref (b0 + x0)), (1, .int x1)]) 6 dX11_essentialOf_5 rfl (Nat.le_of_ble_eq_true rfl) rfl ?_
  exact z_sub [2, 3, 1, 0] rfl (BX11_essentialOf_6 b0 x0 x1 zfu (nI 255) (nI 0) h)
-- X11_essential
def bX11_essential_17 (t0 : Int32) (h : ZH) : Option (Int32 × ZH) :=
  some (t0, h)
theorem BX11_essential_17 (b0 : Nat) (t0 : Int32) (h : ZH) : Zr zi b0 YX11_essential 4 17 [] [.int t0] h (bX11_essential_17 t0 h) := by
  unfold bX11_essential_17
  exact z_ireturn dX11_essential_17 rfl
def fX11_essential (x0 : Nat) (x1 : Int32) (h : ZH) : Option (Int32 × ZH) :=
  if x0 < zn h ∧ zK h x0 = 11 then ((fX11_isSlot x1 h).bind fun q1 =>
  if q1.1 = 0 then (bX11_essential_17 (-2 : Int32) q1.2) else
  ((fX11_essentialOf x0 x1 q1.2).bind fun q3 =>
  bX11_essential_17 q3.1 q3.2)) else none
theorem kX11_essential {x0 : Nat} {x1 : Int32} {h : ZH} {x : Int32 × ZH} (e : fX11_essential x0 x1 h = some x) : x0 < zn h ∧ zK h x0 = 11 := by
  unfold fX11_essential at e
  exact zguard e
theorem mX11_essential (b0 : Nat) (x0 : Nat) (x1 : Int32) (h : ZH) : ZM zi b0 YX11_essential 4 [.ref (b0 + x0), .int x1] h (fX11_essential x0 x1 h) := by
  unfold fX11_essential
  refine ZM.of (by decide) rfl (Nat.le_of_ble_eq_true rfl) (fun _ => trivial) ?_
  refine z_sub (lv2 := [(0, .ref (b0 + x0)), (1, .int x1)]) [0, 1] rfl ?_
  refine z_guard (fun _ => ?_)
  refine z_iload_n 1 1 dX11_essential_0 rfl rfl ?_
  refine z_callSi 4 (mX11_isSlot b0 x1 h) zyX11_isSlot rfl w_1154 wt_yX11_isSlot (Nat.le_of_ble_eq_true rfl) rfl (Nat.le_of_ble_eq_true rfl) dX11_essential_1 rfl (fun q1 => ?_)
  refine z_if_eq 15 7 dX11_essential_4 (by decide) rfl (fun c2 => ?_) (fun c2 => ?_)
  · refine z_bipush (-2 : Int32) 17 zkb_m2 dX11_essential_15 rfl ?_
    exact z_sub [] rfl (BX11_essential_17 b0 (-2 : Int32) q1.2 )
  · refine z_aload_n 8 0 dX11_essential_7 rfl rfl ?_
    refine z_iload_n 9 1 dX11_essential_8 rfl rfl ?_
    refine z_callVi 12 (mX11_essentialOf b0 x0 x1 q1.2) zyX11_essentialOf rfl w_1231 (ci := 11) rfl (Nat.le_of_ble_eq_true rfl) (fun _ e9 => kX11_essentialOf e9) wm_yX11_essentialOf ws_yX11_essentialOf (Nat.le_of_ble_eq_true rfl) rfl (Nat.le_of_ble_eq_true rfl) dX11_essential_9 rfl (fun q3 => ?_)
    refine z_goto 17 dX11_essential_12 (by decide) ?_
    exact z_sub [] rfl (BX11_essential_17 b0 q3.1 q3.2 )
-- X11_image
def bX11_image_37 (self6 : Int32 × Int32 × ZH → Option (Int32 × ZH)) (x0 : Nat) (x1 : Int32) (x2 : Int32) (x3 : Int32) (x5 : Int32) (t0 : Int32) (t1 : Int32) (h : ZH) : Option (Int32 × ZH) :=
  zl (t1 ||| t0) fun v1 =>
  self6 (v1, (x5 + (nI 1)), h)
theorem BX11_image_37 (b0 : Nat) (self6 : Int32 × Int32 × ZH → Option (Int32 × ZH)) (x0 : Nat) (x1 : Int32) (x2 : Int32) (x3 : Int32) (x5 : Int32) (t0 : Int32) (t1 : Int32) (h : ZH) (hself6 : ∀ (y4 : Int32) (y5 : Int32) (hh : ZH), Zr zi b0 YX11_image 2 6 [(0, .ref (b0 + x0)), (1, .int x1), (2, .int x2), (3, .int x3), (4, .int y4), (5, .int y5)] [] hh (self6 (y4, y5, hh))) : Zr zi b0 YX11_image 2 37 [(0, .ref (b0 + x0)), (1, .int x1), (2, .int x2), (3, .int x3), (5, .int x5)] [.int t0, .int t1] h (bX11_image_37 self6 x0 x1 x2 x3 x5 t0 t1 h) := by
  unfold bX11_image_37
  refine z_ior 38 dX11_image_37 rfl ?_
  refine z_letI (fun v1 _ => ?_)
  refine z_istore (lv2 := [(4, .int v1), (0, .ref (b0 + x0)), (1, .int x1), (2, .int x2), (3, .int x3), (5, .int x5)]) 40 dX11_image_38 rfl (Nat.le_of_ble_eq_true rfl) rfl ?_
  refine z_iinc (lv2 := [(5, .int (x5 + (nI 1))), (4, .int v1), (0, .ref (b0 + x0)), (1, .int x1), (2, .int x2), (3, .int x3)]) (nI 1) 43 5 dX11_image_40 rfl rfl zki_1 (Nat.le_of_ble_eq_true rfl) rfl ?_
  refine z_goto 6 dX11_image_43 (by decide) ?_
  exact z_sub [2, 3, 4, 5, 1, 0] rfl (hself6 v1 (x5 + (nI 1)) h)
def kX11_image_6 (x0 : Nat) (x1 : Int32) (x2 : Int32) (x3 : Int32) (self6 : Int32 × Int32 × ZH → Option (Int32 × ZH)) (x4 : Int32) (x5 : Int32) (h : ZH) : Option (Int32 × ZH) :=
  if (nI 8) ≤ x5 then (some (x4, h)) else
  (if ((jshr x2 x5) &&& (nI 1)) = (nI 1) then ((fX11_to x0 x1 x5 x3 h).bind fun q3 =>
  bX11_image_37 self6 x0 x1 x2 x3 x5 q3.1 x4 q3.2) else
  (bX11_image_37 self6 x0 x1 x2 x3 x5 (nI 0) x4 h))
def lX11_image_6 (x0 : Nat) (x1 : Int32) (x2 : Int32) (x3 : Int32) : (Int32 × Int32 × ZH → Option (Int32 × ZH)) → Int32 × Int32 × ZH → Option (Int32 × ZH) := fun self s => kX11_image_6 x0 x1 x2 x3 self s.1 s.2.1 s.2.2
theorem KX11_image_6 (b0 : Nat) (x0 : Nat) (x1 : Int32) (x2 : Int32) (x3 : Int32) (self6 : Int32 × Int32 × ZH → Option (Int32 × ZH)) (hself6 : ∀ (y4 : Int32) (y5 : Int32) (hh : ZH), Zr zi b0 YX11_image 2 6 [(0, .ref (b0 + x0)), (1, .int x1), (2, .int x2), (3, .int x3), (4, .int y4), (5, .int y5)] [] hh (self6 (y4, y5, hh))) (x4 : Int32) (x5 : Int32) (h : ZH) : Zr zi b0 YX11_image 2 6 [(0, .ref (b0 + x0)), (1, .int x1), (2, .int x2), (3, .int x3), (4, .int x4), (5, .int x5)] [] h (kX11_image_6 x0 x1 x2 x3 self6 x4 x5 h) := by
  unfold kX11_image_6
  refine z_iload 8 5 dX11_image_6 rfl rfl ?_
  refine z_bipush (nI 8) 10 zkb_8 dX11_image_8 rfl ?_
  refine z_icmp_ge 46 13 dX11_image_10 (by decide) rfl (fun c1 => ?_) (fun c1 => ?_)
  · refine z_iload 48 4 dX11_image_46 rfl rfl ?_
    exact z_ireturn dX11_image_48 rfl
  · refine z_iload 15 4 dX11_image_13 rfl rfl ?_
    refine z_iload_n 16 2 dX11_image_15 rfl rfl ?_
    refine z_iload 18 5 dX11_image_16 rfl rfl ?_
    refine z_ishr 19 dX11_image_18 rfl ?_
    refine z_iconst (nI 1) 20 zki_1 dX11_image_19 rfl ?_
    refine z_iand 21 dX11_image_20 rfl ?_
    refine z_iconst (nI 1) 22 zki_1 dX11_image_21 rfl ?_
    refine z_icmp_ne 36 25 dX11_image_22 (by decide) rfl (fun c2 => ?_) (fun c2 => ?_)
    · refine z_iconst (nI 0) 37 zki_0 dX11_image_36 rfl ?_
      exact z_sub [0, 1, 2, 3, 5] rfl (BX11_image_37 b0 self6 x0 x1 x2 x3 x5 (nI 0) x4 h hself6)
    · refine z_aload_n 26 0 dX11_image_25 rfl rfl ?_
      refine z_iload_n 27 1 dX11_image_26 rfl rfl ?_
      refine z_iload 29 5 dX11_image_27 rfl rfl ?_
      refine z_iload_n 30 3 dX11_image_29 rfl rfl ?_
      refine z_callVi 33 (mX11_to b0 x0 x1 x5 x3 h) zyX11_to rfl w_1183 (ci := 11) rfl (Nat.le_of_ble_eq_true rfl) (fun _ e9 => kX11_to e9) wm_yX11_to ws_yX11_to (Nat.le_of_ble_eq_true rfl) rfl (Nat.le_of_ble_eq_true rfl) dX11_image_30 rfl (fun q3 => ?_)
      refine z_goto 37 dX11_image_33 (by decide) ?_
      exact z_sub [0, 1, 2, 3, 5] rfl (BX11_image_37 b0 self6 x0 x1 x2 x3 x5 q3.1 x4 q3.2 hself6)
theorem BX11_image_6 (b0 : Nat) (x0 : Nat) (x1 : Int32) (x2 : Int32) (x3 : Int32) (n : Nat) (x4 : Int32) (x5 : Int32) (h : ZH) : Zr zi b0 YX11_image 2 6 [(0, .ref (b0 + x0)), (1, .int x1), (2, .int x2), (3, .int x3), (4, .int x4), (5, .int x5)] [] h (zloop (lX11_image_6 x0 x1 x2 x3) n (x4, x5, h)) :=
  zloop_Zr (fun s => [(0, .ref (b0 + x0)), (1, .int x1), (2, .int x2), (3, .int x3), (4, .int s.1), (5, .int s.2.1)]) (fun _ => []) (fun s => s.2.2) (lX11_image_6 x0 x1 x2 x3) (fun self hs s => KX11_image_6 b0 x0 x1 x2 x3 self (fun y4 y5 hh => hs (y4, y5, hh)) s.1 s.2.1 s.2.2) n (x4, x5, h)
def fX11_image (x0 : Nat) (x1 : Int32) (x2 : Int32) (x3 : Int32) (h : ZH) : Option (Int32 × ZH) :=
  if x0 < zn h ∧ zK h x0 = 11 then (zloop (lX11_image_6 x0 x1 x2 x3) zfu ((nI 0), (nI 0), h)) else none
theorem kX11_image {x0 : Nat} {x1 : Int32} {x2 : Int32} {x3 : Int32} {h : ZH} {x : Int32 × ZH} (e : fX11_image x0 x1 x2 x3 h = some x) : x0 < zn h ∧ zK h x0 = 11 := by
  unfold fX11_image at e
  exact zguard e
theorem mX11_image (b0 : Nat) (x0 : Nat) (x1 : Int32) (x2 : Int32) (x3 : Int32) (h : ZH) : ZM zi b0 YX11_image 2 [.ref (b0 + x0), .int x1, .int x2, .int x3] h (fX11_image x0 x1 x2 x3 h) := by
  unfold fX11_image
  refine ZM.of (by decide) rfl (Nat.le_of_ble_eq_true rfl) (fun _ => trivial) ?_
  refine z_sub (lv2 := [(0, .ref (b0 + x0)), (1, .int x1), (2, .int x2), (3, .int x3)]) [0, 1, 2, 3] rfl ?_
  refine z_guard (fun _ => ?_)
  refine z_iconst (nI 0) 1 zki_0 dX11_image_0 rfl ?_
  refine z_istore (lv2 := [(4, .int (nI 0)), (0, .ref (b0 + x0)), (1, .int x1), (2, .int x2), (3, .int x3)]) 3 dX11_image_1 rfl (Nat.le_of_ble_eq_true rfl) rfl ?_
  refine z_iconst (nI 0) 4 zki_0 dX11_image_3 rfl ?_
  refine z_istore (lv2 := [(5, .int (nI 0)), (4, .int (nI 0)), (0, .ref (b0 + x0)), (1, .int x1), (2, .int x2), (3, .int x3)]) 6 dX11_image_4 rfl (Nat.le_of_ble_eq_true rfl) rfl ?_
  exact z_sub [2, 3, 4, 5, 1, 0] rfl (BX11_image_6 b0 x0 x1 x2 x3 zfu (nI 0) (nI 0) h)
-- X11_step
def bX11_step_38 (self6 : Int32 × Int32 × ZH → Option (Int32 × ZH)) (x0 : Nat) (x1 : Int32) (x2 : Int32) (x3 : Int32) (x5 : Int32) (t0 : Int32) (t1 : Int32) (h : ZH) : Option (Int32 × ZH) :=
  zl (t1 ||| t0) fun v1 =>
  self6 (v1, (x5 + (nI 1)), h)
theorem BX11_step_38 (b0 : Nat) (self6 : Int32 × Int32 × ZH → Option (Int32 × ZH)) (x0 : Nat) (x1 : Int32) (x2 : Int32) (x3 : Int32) (x5 : Int32) (t0 : Int32) (t1 : Int32) (h : ZH) (hself6 : ∀ (y4 : Int32) (y5 : Int32) (hh : ZH), Zr zi b0 YX11_step 3 6 [(0, .ref (b0 + x0)), (1, .int x1), (2, .int x2), (3, .int x3), (4, .int y4), (5, .int y5)] [] hh (self6 (y4, y5, hh))) : Zr zi b0 YX11_step 3 38 [(0, .ref (b0 + x0)), (1, .int x1), (2, .int x2), (3, .int x3), (5, .int x5)] [.int t0, .int t1] h (bX11_step_38 self6 x0 x1 x2 x3 x5 t0 t1 h) := by
  unfold bX11_step_38
  refine z_ior 39 dX11_step_38 rfl ?_
  refine z_letI (fun v1 _ => ?_)
  refine z_istore (lv2 := [(4, .int v1), (0, .ref (b0 + x0)), (1, .int x1), (2, .int x2), (3, .int x3), (5, .int x5)]) 41 dX11_step_39 rfl (Nat.le_of_ble_eq_true rfl) rfl ?_
  refine z_iinc (lv2 := [(5, .int (x5 + (nI 1))), (4, .int v1), (0, .ref (b0 + x0)), (1, .int x1), (2, .int x2), (3, .int x3)]) (nI 1) 44 5 dX11_step_41 rfl rfl zki_1 (Nat.le_of_ble_eq_true rfl) rfl ?_
  refine z_goto 6 dX11_step_44 (by decide) ?_
  exact z_sub [2, 3, 4, 5, 1, 0] rfl (hself6 v1 (x5 + (nI 1)) h)
def kX11_step_6 (x0 : Nat) (x1 : Int32) (x2 : Int32) (x3 : Int32) (self6 : Int32 × Int32 × ZH → Option (Int32 × ZH)) (x4 : Int32) (x5 : Int32) (h : ZH) : Option (Int32 × ZH) :=
  if (nI 8) ≤ x5 then (some (x4, h)) else
  (if ((jshr x2 x5) &&& (nI 1)) = (nI 1) then ((fX11_unionOf x0 x1 x5 h).bind fun q3 =>
  bX11_step_38 self6 x0 x1 x2 x3 x5 (q3.1 &&& x3) x4 q3.2) else
  (bX11_step_38 self6 x0 x1 x2 x3 x5 (nI 0) x4 h))
def lX11_step_6 (x0 : Nat) (x1 : Int32) (x2 : Int32) (x3 : Int32) : (Int32 × Int32 × ZH → Option (Int32 × ZH)) → Int32 × Int32 × ZH → Option (Int32 × ZH) := fun self s => kX11_step_6 x0 x1 x2 x3 self s.1 s.2.1 s.2.2
theorem KX11_step_6 (b0 : Nat) (x0 : Nat) (x1 : Int32) (x2 : Int32) (x3 : Int32) (self6 : Int32 × Int32 × ZH → Option (Int32 × ZH)) (hself6 : ∀ (y4 : Int32) (y5 : Int32) (hh : ZH), Zr zi b0 YX11_step 3 6 [(0, .ref (b0 + x0)), (1, .int x1), (2, .int x2), (3, .int x3), (4, .int y4), (5, .int y5)] [] hh (self6 (y4, y5, hh))) (x4 : Int32) (x5 : Int32) (h : ZH) : Zr zi b0 YX11_step 3 6 [(0, .ref (b0 + x0)), (1, .int x1), (2, .int x2), (3, .int x3), (4, .int x4), (5, .int x5)] [] h (kX11_step_6 x0 x1 x2 x3 self6 x4 x5 h) := by
  unfold kX11_step_6
  refine z_iload 8 5 dX11_step_6 rfl rfl ?_
  refine z_bipush (nI 8) 10 zkb_8 dX11_step_8 rfl ?_
  refine z_icmp_ge 47 13 dX11_step_10 (by decide) rfl (fun c1 => ?_) (fun c1 => ?_)
  · refine z_iload 49 4 dX11_step_47 rfl rfl ?_
    exact z_ireturn dX11_step_49 rfl
  · refine z_iload 15 4 dX11_step_13 rfl rfl ?_
    refine z_iload_n 16 2 dX11_step_15 rfl rfl ?_
    refine z_iload 18 5 dX11_step_16 rfl rfl ?_
    refine z_ishr 19 dX11_step_18 rfl ?_
    refine z_iconst (nI 1) 20 zki_1 dX11_step_19 rfl ?_
    refine z_iand 21 dX11_step_20 rfl ?_
    refine z_iconst (nI 1) 22 zki_1 dX11_step_21 rfl ?_
    refine z_icmp_ne 37 25 dX11_step_22 (by decide) rfl (fun c2 => ?_) (fun c2 => ?_)
    · refine z_iconst (nI 0) 38 zki_0 dX11_step_37 rfl ?_
      exact z_sub [0, 1, 2, 3, 5] rfl (BX11_step_38 b0 self6 x0 x1 x2 x3 x5 (nI 0) x4 h hself6)
    · refine z_aload_n 26 0 dX11_step_25 rfl rfl ?_
      refine z_iload_n 27 1 dX11_step_26 rfl rfl ?_
      refine z_iload 29 5 dX11_step_27 rfl rfl ?_
      refine z_callVi 32 (mX11_unionOf b0 x0 x1 x5 h) zyX11_unionOf rfl w_1235 (ci := 11) rfl (Nat.le_of_ble_eq_true rfl) (fun _ e9 => kX11_unionOf e9) wm_yX11_unionOf ws_yX11_unionOf (Nat.le_of_ble_eq_true rfl) rfl (Nat.le_of_ble_eq_true rfl) dX11_step_29 rfl (fun q3 => ?_)
      refine z_iload_n 33 3 dX11_step_32 rfl rfl ?_
      refine z_iand 34 dX11_step_33 rfl ?_
      refine z_goto 38 dX11_step_34 (by decide) ?_
      exact z_sub [0, 1, 2, 3, 5] rfl (BX11_step_38 b0 self6 x0 x1 x2 x3 x5 (q3.1 &&& x3) x4 q3.2 hself6)
theorem BX11_step_6 (b0 : Nat) (x0 : Nat) (x1 : Int32) (x2 : Int32) (x3 : Int32) (n : Nat) (x4 : Int32) (x5 : Int32) (h : ZH) : Zr zi b0 YX11_step 3 6 [(0, .ref (b0 + x0)), (1, .int x1), (2, .int x2), (3, .int x3), (4, .int x4), (5, .int x5)] [] h (zloop (lX11_step_6 x0 x1 x2 x3) n (x4, x5, h)) :=
  zloop_Zr (fun s => [(0, .ref (b0 + x0)), (1, .int x1), (2, .int x2), (3, .int x3), (4, .int s.1), (5, .int s.2.1)]) (fun _ => []) (fun s => s.2.2) (lX11_step_6 x0 x1 x2 x3) (fun self hs s => KX11_step_6 b0 x0 x1 x2 x3 self (fun y4 y5 hh => hs (y4, y5, hh)) s.1 s.2.1 s.2.2) n (x4, x5, h)
def fX11_step (x0 : Nat) (x1 : Int32) (x2 : Int32) (x3 : Int32) (h : ZH) : Option (Int32 × ZH) :=
  if x0 < zn h ∧ zK h x0 = 11 then (zloop (lX11_step_6 x0 x1 x2 x3) zfu ((nI 0), (nI 0), h)) else none
theorem kX11_step {x0 : Nat} {x1 : Int32} {x2 : Int32} {x3 : Int32} {h : ZH} {x : Int32 × ZH} (e : fX11_step x0 x1 x2 x3 h = some x) : x0 < zn h ∧ zK h x0 = 11 := by
  unfold fX11_step at e
  exact zguard e
theorem mX11_step (b0 : Nat) (x0 : Nat) (x1 : Int32) (x2 : Int32) (x3 : Int32) (h : ZH) : ZM zi b0 YX11_step 3 [.ref (b0 + x0), .int x1, .int x2, .int x3] h (fX11_step x0 x1 x2 x3 h) := by
  unfold fX11_step
  refine ZM.of (by decide) rfl (Nat.le_of_ble_eq_true rfl) (fun _ => trivial) ?_
  refine z_sub (lv2 := [(0, .ref (b0 + x0)), (1, .int x1), (2, .int x2), (3, .int x3)]) [0, 1, 2, 3] rfl ?_
  refine z_guard (fun _ => ?_)
  refine z_iconst (nI 0) 1 zki_0 dX11_step_0 rfl ?_
  refine z_istore (lv2 := [(4, .int (nI 0)), (0, .ref (b0 + x0)), (1, .int x1), (2, .int x2), (3, .int x3)]) 3 dX11_step_1 rfl (Nat.le_of_ble_eq_true rfl) rfl ?_
  refine z_iconst (nI 0) 4 zki_0 dX11_step_3 rfl ?_
  refine z_istore (lv2 := [(5, .int (nI 0)), (4, .int (nI 0)), (0, .ref (b0 + x0)), (1, .int x1), (2, .int x2), (3, .int x3)]) 6 dX11_step_4 rfl (Nat.le_of_ble_eq_true rfl) rfl ?_
  exact z_sub [2, 3, 4, 5, 1, 0] rfl (BX11_step_6 b0 x0 x1 x2 x3 zfu (nI 0) (nI 0) h)
-- X11_isWhole
def bX11_isWhole_80 (t0 : Int32) (h : ZH) : Option (Int32 × ZH) :=
  if t0 = 0 ∨ t0 = 1 then some (t0, h) else none
theorem BX11_isWhole_80 (b0 : Nat) (t0 : Int32) (h : ZH) : Zr zi b0 YX11_isWhole 4 80 [] [.int t0] h (bX11_isWhole_80 t0 h) := by
  unfold bX11_isWhole_80
  exact z_zreturn dX11_isWhole_80 rfl
def bX11_isWhole_65 (self8 : Int32 × ZH → Option (Int32 × ZH)) (x0 : Nat) (x1 : Int32) (x2 : Int32) (x3 : Int32) (h : ZH) : Option (Int32 × ZH) :=
  self8 ((x3 + (nI 1)), h)
theorem BX11_isWhole_65 (b0 : Nat) (self8 : Int32 × ZH → Option (Int32 × ZH)) (x0 : Nat) (x1 : Int32) (x2 : Int32) (x3 : Int32) (h : ZH) (hself8 : ∀ (y3 : Int32) (hh : ZH), Zr zi b0 YX11_isWhole 4 8 [(0, .ref (b0 + x0)), (1, .int x1), (2, .int x2), (3, .int y3)] [] hh (self8 (y3, hh))) : Zr zi b0 YX11_isWhole 4 65 [(0, .ref (b0 + x0)), (1, .int x1), (2, .int x2), (3, .int x3)] [] h (bX11_isWhole_65 self8 x0 x1 x2 x3 h) := by
  unfold bX11_isWhole_65
  refine z_iinc (lv2 := [(3, .int (x3 + (nI 1))), (0, .ref (b0 + x0)), (1, .int x1), (2, .int x2)]) (nI 1) 68 3 dX11_isWhole_65 rfl rfl zki_1 (Nat.le_of_ble_eq_true rfl) rfl ?_
  refine z_goto 8 dX11_isWhole_68 (by decide) ?_
  exact z_sub [1, 2, 3, 0] rfl (hself8 (x3 + (nI 1)) h)
def kX11_isWhole_31 (self8 : Int32 × ZH → Option (Int32 × ZH)) (x0 : Nat) (x1 : Int32) (x2 : Int32) (x3 : Int32) (self31 : Int32 × Int32 × ZH → Option (Int32 × ZH)) (x4 : Int32) (x5 : Int32) (h : ZH) : Option (Int32 × ZH) :=
  if (nI 8) ≤ x5 then (if x4 = x2 then (bX11_isWhole_65 self8 x0 x1 x2 x3 h) else
  (if (nI 0) = 0 ∨ (nI 0) = 1 then some ((nI 0), h) else none)) else
  ((fX11_step x0 x1 x4 x2 h).bind fun q3 =>
  zl (x4 ||| q3.1) fun v4 =>
  self31 (v4, (x5 + (nI 1)), q3.2))
def lX11_isWhole_31 (self8 : Int32 × ZH → Option (Int32 × ZH)) (x0 : Nat) (x1 : Int32) (x2 : Int32) (x3 : Int32) : (Int32 × Int32 × ZH → Option (Int32 × ZH)) → Int32 × Int32 × ZH → Option (Int32 × ZH) := fun self s => kX11_isWhole_31 self8 x0 x1 x2 x3 self s.1 s.2.1 s.2.2
theorem KX11_isWhole_31 (b0 : Nat) (self8 : Int32 × ZH → Option (Int32 × ZH)) (x0 : Nat) (x1 : Int32) (x2 : Int32) (x3 : Int32) (hself8 : ∀ (y3 : Int32) (hh : ZH), Zr zi b0 YX11_isWhole 4 8 [(0, .ref (b0 + x0)), (1, .int x1), (2, .int x2), (3, .int y3)] [] hh (self8 (y3, hh))) (self31 : Int32 × Int32 × ZH → Option (Int32 × ZH)) (hself31 : ∀ (y4 : Int32) (y5 : Int32) (hh : ZH), Zr zi b0 YX11_isWhole 4 31 [(0, .ref (b0 + x0)), (1, .int x1), (2, .int x2), (3, .int x3), (4, .int y4), (5, .int y5)] [] hh (self31 (y4, y5, hh))) (x4 : Int32) (x5 : Int32) (h : ZH) : Zr zi b0 YX11_isWhole 4 31 [(0, .ref (b0 + x0)), (1, .int x1), (2, .int x2), (3, .int x3), (4, .int x4), (5, .int x5)] [] h (kX11_isWhole_31 self8 x0 x1 x2 x3 self31 x4 x5 h) := by
  unfold kX11_isWhole_31
  refine z_iload 33 5 dX11_isWhole_31 rfl rfl ?_
  refine z_bipush (nI 8) 35 zkb_8 dX11_isWhole_33 rfl ?_
  refine z_icmp_ge 57 38 dX11_isWhole_35 (by decide) rfl (fun c1 => ?_) (fun c1 => ?_)
  · refine z_iload 59 4 dX11_isWhole_57 rfl rfl ?_
    refine z_iload_n 60 2 dX11_isWhole_59 rfl rfl ?_
    refine z_icmp_eq 65 63 dX11_isWhole_60 (by decide) rfl (fun c2 => ?_) (fun c2 => ?_)
    · exact z_sub [0, 1, 2, 3] rfl (BX11_isWhole_65 b0 self8 x0 x1 x2 x3 h hself8)
    · refine z_iconst (nI 0) 64 zki_0 dX11_isWhole_63 rfl ?_
      exact z_zreturn dX11_isWhole_64 rfl
  · refine z_iload 40 4 dX11_isWhole_38 rfl rfl ?_
    refine z_aload_n 41 0 dX11_isWhole_40 rfl rfl ?_
    refine z_iload_n 42 1 dX11_isWhole_41 rfl rfl ?_
    refine z_iload 44 4 dX11_isWhole_42 rfl rfl ?_
    refine z_iload_n 45 2 dX11_isWhole_44 rfl rfl ?_
    refine z_callVi 48 (mX11_step b0 x0 x1 x4 x2 h) zyX11_step rfl w_1247 (ci := 11) rfl (Nat.le_of_ble_eq_true rfl) (fun _ e9 => kX11_step e9) wm_yX11_step ws_yX11_step (Nat.le_of_ble_eq_true rfl) rfl (Nat.le_of_ble_eq_true rfl) dX11_isWhole_45 rfl (fun q3 => ?_)
    refine z_ior 49 dX11_isWhole_48 rfl ?_
    refine z_letI (fun v4 _ => ?_)
    refine z_istore (lv2 := [(4, .int v4), (0, .ref (b0 + x0)), (1, .int x1), (2, .int x2), (3, .int x3), (5, .int x5)]) 51 dX11_isWhole_49 rfl (Nat.le_of_ble_eq_true rfl) rfl ?_
    refine z_iinc (lv2 := [(5, .int (x5 + (nI 1))), (4, .int v4), (0, .ref (b0 + x0)), (1, .int x1), (2, .int x2), (3, .int x3)]) (nI 1) 54 5 dX11_isWhole_51 rfl rfl zki_1 (Nat.le_of_ble_eq_true rfl) rfl ?_
    refine z_goto 31 dX11_isWhole_54 (by decide) ?_
    exact z_sub [2, 3, 4, 5, 1, 0] rfl (hself31 v4 (x5 + (nI 1)) q3.2)
theorem BX11_isWhole_31 (b0 : Nat) (self8 : Int32 × ZH → Option (Int32 × ZH)) (x0 : Nat) (x1 : Int32) (x2 : Int32) (x3 : Int32) (hself8 : ∀ (y3 : Int32) (hh : ZH), Zr zi b0 YX11_isWhole 4 8 [(0, .ref (b0 + x0)), (1, .int x1), (2, .int x2), (3, .int y3)] [] hh (self8 (y3, hh))) (n : Nat) (x4 : Int32) (x5 : Int32) (h : ZH) : Zr zi b0 YX11_isWhole 4 31 [(0, .ref (b0 + x0)), (1, .int x1), (2, .int x2), (3, .int x3), (4, .int x4), (5, .int x5)] [] h (zloop (lX11_isWhole_31 self8 x0 x1 x2 x3) n (x4, x5, h)) :=
  zloop_Zr (fun s => [(0, .ref (b0 + x0)), (1, .int x1), (2, .int x2), (3, .int x3), (4, .int s.1), (5, .int s.2.1)]) (fun _ => []) (fun s => s.2.2) (lX11_isWhole_31 self8 x0 x1 x2 x3) (fun self hs s => KX11_isWhole_31 b0 self8 x0 x1 x2 x3 hself8 self (fun y4 y5 hh => hs (y4, y5, hh)) s.1 s.2.1 s.2.2) n (x4, x5, h)
def kX11_isWhole_8 (x0 : Nat) (x1 : Int32) (x2 : Int32) (self8 : Int32 × ZH → Option (Int32 × ZH)) (x3 : Int32) (h : ZH) : Option (Int32 × ZH) :=
  if (nI 8) ≤ x3 then (if x2 = 0 then (bX11_isWhole_80 (nI 0) h) else
  (bX11_isWhole_80 (nI 1) h)) else
  (if ((jshr x2 x3) &&& (nI 1)) = (nI 1) then (zl (jshl (nI 1) x3) fun v4 =>
  zloop (lX11_isWhole_31 self8 x0 x1 x2 x3) zfu (v4, (nI 0), h)) else
  (bX11_isWhole_65 self8 x0 x1 x2 x3 h))
def lX11_isWhole_8 (x0 : Nat) (x1 : Int32) (x2 : Int32) : (Int32 × ZH → Option (Int32 × ZH)) → Int32 × ZH → Option (Int32 × ZH) := fun self s => kX11_isWhole_8 x0 x1 x2 self s.1 s.2
theorem KX11_isWhole_8 (b0 : Nat) (x0 : Nat) (x1 : Int32) (x2 : Int32) (self8 : Int32 × ZH → Option (Int32 × ZH)) (hself8 : ∀ (y3 : Int32) (hh : ZH), Zr zi b0 YX11_isWhole 4 8 [(0, .ref (b0 + x0)), (1, .int x1), (2, .int x2), (3, .int y3)] [] hh (self8 (y3, hh))) (x3 : Int32) (h : ZH) : Zr zi b0 YX11_isWhole 4 8 [(0, .ref (b0 + x0)), (1, .int x1), (2, .int x2), (3, .int x3)] [] h (kX11_isWhole_8 x0 x1 x2 self8 x3 h) := by
  unfold kX11_isWhole_8
  refine z_iload_n 9 3 dX11_isWhole_8 rfl rfl ?_
  refine z_bipush (nI 8) 11 zkb_8 dX11_isWhole_9 rfl ?_
  refine z_icmp_ge 71 14 dX11_isWhole_11 (by decide) rfl (fun c1 => ?_) (fun c1 => ?_)
  · refine z_iload_n 72 2 dX11_isWhole_71 rfl rfl ?_
    refine z_if_eq 79 75 dX11_isWhole_72 (by decide) rfl (fun c2 => ?_) (fun c2 => ?_)
    · refine z_iconst (nI 0) 80 zki_0 dX11_isWhole_79 rfl ?_
      exact z_sub [] rfl (BX11_isWhole_80 b0 (nI 0) h )
    · refine z_iconst (nI 1) 76 zki_1 dX11_isWhole_75 rfl ?_
      refine z_goto 80 dX11_isWhole_76 (by decide) ?_
      exact z_sub [] rfl (BX11_isWhole_80 b0 (nI 1) h )
  · refine z_iload_n 15 2 dX11_isWhole_14 rfl rfl ?_
    refine z_iload_n 16 3 dX11_isWhole_15 rfl rfl ?_
    refine z_ishr 17 dX11_isWhole_16 rfl ?_
    refine z_iconst (nI 1) 18 zki_1 dX11_isWhole_17 rfl ?_
    refine z_iand 19 dX11_isWhole_18 rfl ?_
    refine z_iconst (nI 1) 20 zki_1 dX11_isWhole_19 rfl ?_
    refine z_icmp_ne 65 23 dX11_isWhole_20 (by decide) rfl (fun c3 => ?_) (fun c3 => ?_)
    · exact z_sub [0, 1, 2, 3] rfl (BX11_isWhole_65 b0 self8 x0 x1 x2 x3 h hself8)
    · refine z_iconst (nI 1) 24 zki_1 dX11_isWhole_23 rfl ?_
      refine z_iload_n 25 3 dX11_isWhole_24 rfl rfl ?_
      refine z_ishl 26 dX11_isWhole_25 rfl ?_
      refine z_letI (fun v4 _ => ?_)
      refine z_istore (lv2 := [(4, .int v4), (0, .ref (b0 + x0)), (1, .int x1), (2, .int x2), (3, .int x3)]) 28 dX11_isWhole_26 rfl (Nat.le_of_ble_eq_true rfl) rfl ?_
      refine z_iconst (nI 0) 29 zki_0 dX11_isWhole_28 rfl ?_
      refine z_istore (lv2 := [(5, .int (nI 0)), (4, .int v4), (0, .ref (b0 + x0)), (1, .int x1), (2, .int x2), (3, .int x3)]) 31 dX11_isWhole_29 rfl (Nat.le_of_ble_eq_true rfl) rfl ?_
      exact z_sub [2, 3, 4, 5, 1, 0] rfl (BX11_isWhole_31 b0 self8 x0 x1 x2 x3 hself8 zfu v4 (nI 0) h)
theorem BX11_isWhole_8 (b0 : Nat) (x0 : Nat) (x1 : Int32) (x2 : Int32) (n : Nat) (x3 : Int32) (h : ZH) : Zr zi b0 YX11_isWhole 4 8 [(0, .ref (b0 + x0)), (1, .int x1), (2, .int x2), (3, .int x3)] [] h (zloop (lX11_isWhole_8 x0 x1 x2) n (x3, h)) :=
  zloop_Zr (fun s => [(0, .ref (b0 + x0)), (1, .int x1), (2, .int x2), (3, .int s.1)]) (fun _ => []) (fun s => s.2) (lX11_isWhole_8 x0 x1 x2) (fun self hs s => KX11_isWhole_8 b0 x0 x1 x2 self (fun y3 hh => hs (y3, hh)) s.1 s.2) n (x3, h)
def fX11_isWhole (x0 : Nat) (x1 : Int32) (h : ZH) : Option (Int32 × ZH) :=
  if x0 < zn h ∧ zK h x0 = 11 then ((fX11_essentialOf x0 x1 h).bind fun q1 =>
  zloop (lX11_isWhole_8 x0 x1 q1.1) zfu ((nI 0), q1.2)) else none
theorem kX11_isWhole {x0 : Nat} {x1 : Int32} {h : ZH} {x : Int32 × ZH} (e : fX11_isWhole x0 x1 h = some x) : x0 < zn h ∧ zK h x0 = 11 := by
  unfold fX11_isWhole at e
  exact zguard e
theorem mX11_isWhole (b0 : Nat) (x0 : Nat) (x1 : Int32) (h : ZH) : ZM zi b0 YX11_isWhole 4 [.ref (b0 + x0), .int x1] h (fX11_isWhole x0 x1 h) := by
  unfold fX11_isWhole
  refine ZM.of (by decide) rfl (Nat.le_of_ble_eq_true rfl) (fun _ => trivial) ?_
  refine z_sub (lv2 := [(0, .ref (b0 + x0)), (1, .int x1)]) [0, 1] rfl ?_
  refine z_guard (fun _ => ?_)
  refine z_aload_n 1 0 dX11_isWhole_0 rfl rfl ?_
  refine z_iload_n 2 1 dX11_isWhole_1 rfl rfl ?_
  refine z_callVi 5 (mX11_essentialOf b0 x0 x1 h) zyX11_essentialOf rfl w_1231 (ci := 11) rfl (Nat.le_of_ble_eq_true rfl) (fun _ e9 => kX11_essentialOf e9) wm_yX11_essentialOf ws_yX11_essentialOf (Nat.le_of_ble_eq_true rfl) rfl (Nat.le_of_ble_eq_true rfl) dX11_isWhole_2 rfl (fun q1 => ?_)
  refine z_istore_n (lv2 := [(2, .int q1.1), (0, .ref (b0 + x0)), (1, .int x1)]) 6 dX11_isWhole_5 rfl (Nat.le_of_ble_eq_true rfl) rfl ?_
  refine z_iconst (nI 0) 7 zki_0 dX11_isWhole_6 rfl ?_
  refine z_istore_n (lv2 := [(3, .int (nI 0)), (2, .int q1.1), (0, .ref (b0 + x0)), (1, .int x1)]) 8 dX11_isWhole_7 rfl (Nat.le_of_ble_eq_true rfl) rfl ?_
  exact z_sub [2, 3, 1, 0] rfl (BX11_isWhole_8 b0 x0 x1 q1.1 zfu (nI 0) q1.2)
-- X11_isIrreducible
def bX11_isIrreducible_25 (t0 : Int32) (h : ZH) : Option (Int32 × ZH) :=
  some (t0, h)
theorem BX11_isIrreducible_25 (b0 : Nat) (t0 : Int32) (h : ZH) : Zr zi b0 YX11_isIrreducible 5 25 [] [.int t0] h (bX11_isIrreducible_25 t0 h) := by
  unfold bX11_isIrreducible_25
  exact z_ireturn dX11_isIrreducible_25 rfl
def fX11_isIrreducible (x0 : Nat) (x1 : Int32) (h : ZH) : Option (Int32 × ZH) :=
  if x0 < zn h ∧ zK h x0 = 11 then ((fX11_isSlot x1 h).bind fun q1 =>
  if q1.1 = 0 then (bX11_isIrreducible_25 (-2 : Int32) q1.2) else
  ((fX11_isWhole x0 x1 q1.2).bind fun q3 =>
  if q3.1 = 0 then (bX11_isIrreducible_25 (nI 0) q3.2) else
  (bX11_isIrreducible_25 (nI 1) q3.2))) else none
theorem kX11_isIrreducible {x0 : Nat} {x1 : Int32} {h : ZH} {x : Int32 × ZH} (e : fX11_isIrreducible x0 x1 h = some x) : x0 < zn h ∧ zK h x0 = 11 := by
  unfold fX11_isIrreducible at e
  exact zguard e
theorem mX11_isIrreducible (b0 : Nat) (x0 : Nat) (x1 : Int32) (h : ZH) : ZM zi b0 YX11_isIrreducible 5 [.ref (b0 + x0), .int x1] h (fX11_isIrreducible x0 x1 h) := by
  unfold fX11_isIrreducible
  refine ZM.of (by decide) rfl (Nat.le_of_ble_eq_true rfl) (fun _ => trivial) ?_
  refine z_sub (lv2 := [(0, .ref (b0 + x0)), (1, .int x1)]) [0, 1] rfl ?_
  refine z_guard (fun _ => ?_)
  refine z_iload_n 1 1 dX11_isIrreducible_0 rfl rfl ?_
  refine z_callSi 4 (mX11_isSlot b0 x1 h) zyX11_isSlot rfl w_1154 wt_yX11_isSlot (Nat.le_of_ble_eq_true rfl) rfl (Nat.le_of_ble_eq_true rfl) dX11_isIrreducible_1 rfl (fun q1 => ?_)
  refine z_if_ne 12 7 dX11_isIrreducible_4 (by decide) rfl (fun c2 => ?_) (fun c2 => ?_)
  · refine z_aload_n 13 0 dX11_isIrreducible_12 rfl rfl ?_
    refine z_iload_n 14 1 dX11_isIrreducible_13 rfl rfl ?_
    refine z_callVi 17 (mX11_isWhole b0 x0 x1 q1.2) zyX11_isWhole rfl w_1243 (ci := 11) rfl (Nat.le_of_ble_eq_true rfl) (fun _ e9 => kX11_isWhole e9) wm_yX11_isWhole ws_yX11_isWhole (Nat.le_of_ble_eq_true rfl) rfl (Nat.le_of_ble_eq_true rfl) dX11_isIrreducible_14 rfl (fun q3 => ?_)
    refine z_if_eq 24 20 dX11_isIrreducible_17 (by decide) rfl (fun c4 => ?_) (fun c4 => ?_)
    · refine z_iconst (nI 0) 25 zki_0 dX11_isIrreducible_24 rfl ?_
      exact z_sub [] rfl (BX11_isIrreducible_25 b0 (nI 0) q3.2 )
    · refine z_iconst (nI 1) 21 zki_1 dX11_isIrreducible_20 rfl ?_
      refine z_goto 25 dX11_isIrreducible_21 (by decide) ?_
      exact z_sub [] rfl (BX11_isIrreducible_25 b0 (nI 1) q3.2 )
  · refine z_bipush (-2 : Int32) 9 zkb_m2 dX11_isIrreducible_7 rfl ?_
    refine z_goto 25 dX11_isIrreducible_9 (by decide) ?_
    exact z_sub [] rfl (BX11_isIrreducible_25 b0 (-2 : Int32) q1.2 )
-- X11_gcd
def kX11_gcd_6 (self6 : Int64 × Int64 × ZH → Option (Int64 × ZH)) (x4 : Int64) (x6 : Int64) (h : ZH) : Option (Int64 × ZH) :=
  if (lg_cmp x6 (lN 0)) = 0 then (some (x4, h)) else
  (if x6 = 0 then none else
  zl (jlrem x4 x6) fun v2 =>
  self6 (x6, v2, h))
def lX11_gcd_6 : (Int64 × Int64 × ZH → Option (Int64 × ZH)) → Int64 × Int64 × ZH → Option (Int64 × ZH) := fun self s => kX11_gcd_6 self s.1 s.2.1 s.2.2
theorem KX11_gcd_6 (b0 : Nat) (self6 : Int64 × Int64 × ZH → Option (Int64 × ZH)) (hself6 : ∀ (y4 : Int64) (y6 : Int64) (hh : ZH), Zr zj b0 YX11_gcd 1 6 [(4, .long y4), (6, .long y6)] [] hh (self6 (y4, y6, hh))) (x4 : Int64) (x6 : Int64) (h : ZH) : Zr zj b0 YX11_gcd 1 6 [(4, .long x4), (6, .long x6)] [] h (kX11_gcd_6 self6 x4 x6 h) := by
  unfold kX11_gcd_6
  refine z_lload 8 1 dX11_gcd_6 rfl rfl ?_
  refine z_lconst (lN 0) 9 rfl dX11_gcd_8 rfl ?_
  refine z_lcmp 10 dX11_gcd_9 rfl ?_
  refine z_if_eq 31 13 dX11_gcd_10 (by decide) rfl (fun c1 => ?_) (fun c1 => ?_)
  · refine z_lload 33 0 dX11_gcd_31 rfl rfl ?_
    exact z_lreturn dX11_gcd_33 rfl
  · refine z_lload 15 0 dX11_gcd_13 rfl rfl ?_
    refine z_lload 17 1 dX11_gcd_15 rfl rfl ?_
    refine z_lrem 18 dX11_gcd_17 rfl (fun _ => ?_)
    refine z_letJ (fun v2 _ => ?_)
    refine z_lstore (lv2 := [(8, .long v2), (4, .long x4), (6, .long x6)]) 20 dX11_gcd_18 rfl (Nat.le_of_ble_eq_true rfl) rfl ?_
    refine z_lload 22 2 dX11_gcd_20 rfl rfl ?_
    refine z_lstore (lv2 := [(4, .long x6), (8, .long v2), (6, .long x6)]) 24 dX11_gcd_22 rfl (Nat.le_of_ble_eq_true rfl) rfl ?_
    refine z_lload 26 1 dX11_gcd_24 rfl rfl ?_
    refine z_lstore (lv2 := [(6, .long v2), (4, .long x6), (8, .long v2)]) 28 dX11_gcd_26 rfl (Nat.le_of_ble_eq_true rfl) rfl ?_
    refine z_goto 6 dX11_gcd_28 (by decide) ?_
    exact z_sub [1, 0] rfl (hself6 x6 v2 h)
theorem BX11_gcd_6 (b0 : Nat) (n : Nat) (x4 : Int64) (x6 : Int64) (h : ZH) : Zr zj b0 YX11_gcd 1 6 [(4, .long x4), (6, .long x6)] [] h (zloop (lX11_gcd_6 ) n (x4, x6, h)) :=
  zloop_Zr (fun s => [(4, .long s.1), (6, .long s.2.1)]) (fun _ => []) (fun s => s.2.2) (lX11_gcd_6 ) (fun self hs s => KX11_gcd_6 b0 self (fun y4 y6 hh => hs (y4, y6, hh)) s.1 s.2.1 s.2.2) n (x4, x6, h)
def fX11_gcd (x0 : Int64) (x2 : Int64) (h : ZH) : Option (Int64 × ZH) :=
  zloop (lX11_gcd_6 ) zfu (x0, x2, h)
theorem mX11_gcd (b0 : Nat) (x0 : Int64) (x2 : Int64) (h : ZH) : ZM zj b0 YX11_gcd 1 [.long x0, .long x2] h (fX11_gcd x0 x2 h) := by
  unfold fX11_gcd
  refine ZM.of (by decide) rfl (Nat.le_of_ble_eq_true rfl) (fun _ => trivial) ?_
  refine z_sub (lv2 := [(0, .long x0), (2, .long x2)]) [0, 1] rfl ?_
  refine z_lload_n 1 0 dX11_gcd_0 rfl rfl ?_
  refine z_lstore (lv2 := [(4, .long x0), (0, .long x0), (2, .long x2)]) 3 dX11_gcd_1 rfl (Nat.le_of_ble_eq_true rfl) rfl ?_
  refine z_lload_n 4 2 dX11_gcd_3 rfl rfl ?_
  refine z_lstore (lv2 := [(6, .long x2), (4, .long x0), (0, .long x0), (2, .long x2)]) 6 dX11_gcd_4 rfl (Nat.le_of_ble_eq_true rfl) rfl ?_
  exact z_sub [1, 0] rfl (BX11_gcd_6 b0 zfu x0 x2 h)
-- X11_period
def bX11_period_78 (self21 : Int64 × Int32 × ZH → Option (Int32 × ZH)) (self39 : Int64 × Int32 × Int32 × ZH → Option (Int32 × ZH)) (x0 : Nat) (x1 : Int32) (x2 : Int32) (x5 : Int32) (x6 : Int32) (x7 : Int32) (t0 : Int64) (h : ZH) : Option (Int32 × ZH) :=
  self39 (t0, x6, (x7 + (nI 1)), h)
theorem BX11_period_78 (b0 : Nat) (self21 : Int64 × Int32 × ZH → Option (Int32 × ZH)) (self39 : Int64 × Int32 × Int32 × ZH → Option (Int32 × ZH)) (x0 : Nat) (x1 : Int32) (x2 : Int32) (x5 : Int32) (x6 : Int32) (x7 : Int32) (t0 : Int64) (h : ZH) (hself21 : ∀ (y3 : Int64) (y5 : Int32) (hh : ZH), Zr zi b0 YX11_period 4 21 [(0, .ref (b0 + x0)), (1, .int x1), (2, .int x2), (3, .long y3), (5, .int y5)] [] hh (self21 (y3, y5, hh))) (hself39 : ∀ (y3 : Int64) (y6 : Int32) (y7 : Int32) (hh : ZH), Zr zi b0 YX11_period 4 39 [(0, .ref (b0 + x0)), (1, .int x1), (2, .int x2), (5, .int x5), (3, .long y3), (6, .int y6), (7, .int y7)] [] hh (self39 (y3, y6, y7, hh))) : Zr zi b0 YX11_period 4 78 [(0, .ref (b0 + x0)), (1, .int x1), (2, .int x2), (5, .int x5), (6, .int x6), (7, .int x7)] [.long t0] h (bX11_period_78 self21 self39 x0 x1 x2 x5 x6 x7 t0 h) := by
  unfold bX11_period_78
  refine z_lstore_n (lv2 := [(3, .long t0), (0, .ref (b0 + x0)), (1, .int x1), (2, .int x2), (5, .int x5), (6, .int x6), (7, .int x7)]) 79 dX11_period_78 rfl (Nat.le_of_ble_eq_true rfl) rfl ?_
  refine z_iinc (lv2 := [(7, .int (x7 + (nI 1))), (3, .long t0), (0, .ref (b0 + x0)), (1, .int x1), (2, .int x2), (5, .int x5), (6, .int x6)]) (nI 1) 82 6 dX11_period_79 rfl rfl zki_1 (Nat.le_of_ble_eq_true rfl) rfl ?_
  refine z_goto 39 dX11_period_82 (by decide) ?_
  exact z_sub [2, 3, 4, 5, 1, 6, 0] rfl (hself39 t0 x6 (x7 + (nI 1)) h)
def kX11_period_39 (self21 : Int64 × Int32 × ZH → Option (Int32 × ZH)) (x0 : Nat) (x1 : Int32) (x2 : Int32) (x5 : Int32) (self39 : Int64 × Int32 × Int32 × ZH → Option (Int32 × ZH)) (x3 : Int64) (x6 : Int32) (x7 : Int32) (h : ZH) : Option (Int32 × ZH) :=
  if (nI 8) < x7 then (self21 (x3, (x5 + (nI 1)), h)) else
  ((fX11_step x0 x1 x6 x2 h).bind fun q2 =>
  if ((jshr q2.1 x5) &&& (nI 1)) = (nI 1) then ((fX11_gcd (x7.toInt64) x3 q2.2).bind fun q4 =>
  bX11_period_78 self21 self39 x0 x1 x2 x5 q2.1 x7 q4.1 q4.2) else
  (bX11_period_78 self21 self39 x0 x1 x2 x5 q2.1 x7 x3 q2.2))
def lX11_period_39 (self21 : Int64 × Int32 × ZH → Option (Int32 × ZH)) (x0 : Nat) (x1 : Int32) (x2 : Int32) (x5 : Int32) : (Int64 × Int32 × Int32 × ZH → Option (Int32 × ZH)) → Int64 × Int32 × Int32 × ZH → Option (Int32 × ZH) := fun self s => kX11_period_39 self21 x0 x1 x2 x5 self s.1 s.2.1 s.2.2.1 s.2.2.2
theorem KX11_period_39 (b0 : Nat) (self21 : Int64 × Int32 × ZH → Option (Int32 × ZH)) (x0 : Nat) (x1 : Int32) (x2 : Int32) (x5 : Int32) (hself21 : ∀ (y3 : Int64) (y5 : Int32) (hh : ZH), Zr zi b0 YX11_period 4 21 [(0, .ref (b0 + x0)), (1, .int x1), (2, .int x2), (3, .long y3), (5, .int y5)] [] hh (self21 (y3, y5, hh))) (self39 : Int64 × Int32 × Int32 × ZH → Option (Int32 × ZH)) (hself39 : ∀ (y3 : Int64) (y6 : Int32) (y7 : Int32) (hh : ZH), Zr zi b0 YX11_period 4 39 [(0, .ref (b0 + x0)), (1, .int x1), (2, .int x2), (5, .int x5), (3, .long y3), (6, .int y6), (7, .int y7)] [] hh (self39 (y3, y6, y7, hh))) (x3 : Int64) (x6 : Int32) (x7 : Int32) (h : ZH) : Zr zi b0 YX11_period 4 39 [(0, .ref (b0 + x0)), (1, .int x1), (2, .int x2), (5, .int x5), (3, .long x3), (6, .int x6), (7, .int x7)] [] h (kX11_period_39 self21 x0 x1 x2 x5 self39 x3 x6 x7 h) := by
  unfold kX11_period_39
  refine z_iload 41 6 dX11_period_39 rfl rfl ?_
  refine z_bipush (nI 8) 43 zkb_8 dX11_period_41 rfl ?_
  refine z_icmp_gt 85 46 dX11_period_43 (by decide) rfl (fun c1 => ?_) (fun c1 => ?_)
  · refine z_iinc (lv2 := [(5, .int (x5 + (nI 1))), (0, .ref (b0 + x0)), (1, .int x1), (2, .int x2), (3, .long x3), (6, .int x6), (7, .int x7)]) (nI 1) 88 3 dX11_period_85 rfl rfl zki_1 (Nat.le_of_ble_eq_true rfl) rfl ?_
    refine z_goto 21 dX11_period_88 (by decide) ?_
    exact z_sub [1, 2, 3, 4, 0] rfl (hself21 x3 (x5 + (nI 1)) h)
  · refine z_aload_n 47 0 dX11_period_46 rfl rfl ?_
    refine z_iload_n 48 1 dX11_period_47 rfl rfl ?_
    refine z_iload 50 5 dX11_period_48 rfl rfl ?_
    refine z_iload_n 51 2 dX11_period_50 rfl rfl ?_
    refine z_callVi 54 (mX11_step b0 x0 x1 x6 x2 h) zyX11_step rfl w_1247 (ci := 11) rfl (Nat.le_of_ble_eq_true rfl) (fun _ e9 => kX11_step e9) wm_yX11_step ws_yX11_step (Nat.le_of_ble_eq_true rfl) rfl (Nat.le_of_ble_eq_true rfl) dX11_period_51 rfl (fun q2 => ?_)
    refine z_istore (lv2 := [(6, .int q2.1), (0, .ref (b0 + x0)), (1, .int x1), (2, .int x2), (5, .int x5), (3, .long x3), (7, .int x7)]) 56 dX11_period_54 rfl (Nat.le_of_ble_eq_true rfl) rfl ?_
    refine z_iload 58 0 dX11_period_56 rfl rfl ?_
    refine z_iload 60 4 dX11_period_58 rfl rfl ?_
    refine z_ishr 61 dX11_period_60 rfl ?_
    refine z_iconst (nI 1) 62 zki_1 dX11_period_61 rfl ?_
    refine z_iand 63 dX11_period_62 rfl ?_
    refine z_iconst (nI 1) 64 zki_1 dX11_period_63 rfl ?_
    refine z_icmp_ne 77 67 dX11_period_64 (by decide) rfl (fun c3 => ?_) (fun c3 => ?_)
    · refine z_lload_n 78 5 dX11_period_77 rfl rfl ?_
      exact z_sub [1, 2, 3, 4, 0, 6] rfl (BX11_period_78 b0 self21 self39 x0 x1 x2 x5 q2.1 x7 x3 q2.2 hself21 hself39)
    · refine z_iload 69 6 dX11_period_67 rfl rfl ?_
      refine z_i2l 70 dX11_period_69 rfl ?_
      refine z_lload_n 71 5 dX11_period_70 rfl rfl ?_
      refine z_callSj 74 (mX11_gcd b0 (x7.toInt64) x3 q2.2) zyX11_gcd rfl w_1255 wt_yX11_gcd (Nat.le_of_ble_eq_true rfl) rfl (Nat.le_of_ble_eq_true rfl) dX11_period_71 rfl (fun q4 => ?_)
      refine z_goto 78 dX11_period_74 (by decide) ?_
      exact z_sub [1, 2, 3, 4, 0, 6] rfl (BX11_period_78 b0 self21 self39 x0 x1 x2 x5 q2.1 x7 q4.1 q4.2 hself21 hself39)
theorem BX11_period_39 (b0 : Nat) (self21 : Int64 × Int32 × ZH → Option (Int32 × ZH)) (x0 : Nat) (x1 : Int32) (x2 : Int32) (x5 : Int32) (hself21 : ∀ (y3 : Int64) (y5 : Int32) (hh : ZH), Zr zi b0 YX11_period 4 21 [(0, .ref (b0 + x0)), (1, .int x1), (2, .int x2), (3, .long y3), (5, .int y5)] [] hh (self21 (y3, y5, hh))) (n : Nat) (x3 : Int64) (x6 : Int32) (x7 : Int32) (h : ZH) : Zr zi b0 YX11_period 4 39 [(0, .ref (b0 + x0)), (1, .int x1), (2, .int x2), (5, .int x5), (3, .long x3), (6, .int x6), (7, .int x7)] [] h (zloop (lX11_period_39 self21 x0 x1 x2 x5) n (x3, x6, x7, h)) :=
  zloop_Zr (fun s => [(0, .ref (b0 + x0)), (1, .int x1), (2, .int x2), (5, .int x5), (3, .long s.1), (6, .int s.2.1), (7, .int s.2.2.1)]) (fun _ => []) (fun s => s.2.2.2) (lX11_period_39 self21 x0 x1 x2 x5) (fun self hs s => KX11_period_39 b0 self21 x0 x1 x2 x5 hself21 self (fun y3 y6 y7 hh => hs (y3, y6, y7, hh)) s.1 s.2.1 s.2.2.1 s.2.2.2) n (x3, x6, x7, h)
def kX11_period_21 (x0 : Nat) (x1 : Int32) (x2 : Int32) (self21 : Int64 × Int32 × ZH → Option (Int32 × ZH)) (x3 : Int64) (x5 : Int32) (h : ZH) : Option (Int32 × ZH) :=
  if (nI 8) ≤ x5 then (some ((x3.toInt32), h)) else
  (zl ((jshl (nI 1) x5) &&& x2) fun v2 =>
  zloop (lX11_period_39 self21 x0 x1 x2 x5) zfu (x3, v2, (nI 1), h))
def lX11_period_21 (x0 : Nat) (x1 : Int32) (x2 : Int32) : (Int64 × Int32 × ZH → Option (Int32 × ZH)) → Int64 × Int32 × ZH → Option (Int32 × ZH) := fun self s => kX11_period_21 x0 x1 x2 self s.1 s.2.1 s.2.2
theorem KX11_period_21 (b0 : Nat) (x0 : Nat) (x1 : Int32) (x2 : Int32) (self21 : Int64 × Int32 × ZH → Option (Int32 × ZH)) (hself21 : ∀ (y3 : Int64) (y5 : Int32) (hh : ZH), Zr zi b0 YX11_period 4 21 [(0, .ref (b0 + x0)), (1, .int x1), (2, .int x2), (3, .long y3), (5, .int y5)] [] hh (self21 (y3, y5, hh))) (x3 : Int64) (x5 : Int32) (h : ZH) : Zr zi b0 YX11_period 4 21 [(0, .ref (b0 + x0)), (1, .int x1), (2, .int x2), (3, .long x3), (5, .int x5)] [] h (kX11_period_21 x0 x1 x2 self21 x3 x5 h) := by
  unfold kX11_period_21
  refine z_iload 23 4 dX11_period_21 rfl rfl ?_
  refine z_bipush (nI 8) 25 zkb_8 dX11_period_23 rfl ?_
  refine z_icmp_ge 91 28 dX11_period_25 (by decide) rfl (fun c1 => ?_) (fun c1 => ?_)
  · refine z_lload_n 92 3 dX11_period_91 rfl rfl ?_
    refine z_l2i 93 dX11_period_92 rfl ?_
    exact z_ireturn dX11_period_93 rfl
  · refine z_iconst (nI 1) 29 zki_1 dX11_period_28 rfl ?_
    refine z_iload 31 4 dX11_period_29 rfl rfl ?_
    refine z_ishl 32 dX11_period_31 rfl ?_
    refine z_iload_n 33 2 dX11_period_32 rfl rfl ?_
    refine z_iand 34 dX11_period_33 rfl ?_
    refine z_letI (fun v2 _ => ?_)
    refine z_istore (lv2 := [(6, .int v2), (0, .ref (b0 + x0)), (1, .int x1), (2, .int x2), (3, .long x3), (5, .int x5)]) 36 dX11_period_34 rfl (Nat.le_of_ble_eq_true rfl) rfl ?_
    refine z_iconst (nI 1) 37 zki_1 dX11_period_36 rfl ?_
    refine z_istore (lv2 := [(7, .int (nI 1)), (6, .int v2), (0, .ref (b0 + x0)), (1, .int x1), (2, .int x2), (3, .long x3), (5, .int x5)]) 39 dX11_period_37 rfl (Nat.le_of_ble_eq_true rfl) rfl ?_
    exact z_sub [2, 3, 4, 6, 5, 1, 0] rfl (BX11_period_39 b0 self21 x0 x1 x2 x5 hself21 zfu x3 v2 (nI 1) h)
theorem BX11_period_21 (b0 : Nat) (x0 : Nat) (x1 : Int32) (x2 : Int32) (n : Nat) (x3 : Int64) (x5 : Int32) (h : ZH) : Zr zi b0 YX11_period 4 21 [(0, .ref (b0 + x0)), (1, .int x1), (2, .int x2), (3, .long x3), (5, .int x5)] [] h (zloop (lX11_period_21 x0 x1 x2) n (x3, x5, h)) :=
  zloop_Zr (fun s => [(0, .ref (b0 + x0)), (1, .int x1), (2, .int x2), (3, .long s.1), (5, .int s.2.1)]) (fun _ => []) (fun s => s.2.2) (lX11_period_21 x0 x1 x2) (fun self hs s => KX11_period_21 b0 x0 x1 x2 self (fun y3 y5 hh => hs (y3, y5, hh)) s.1 s.2.1 s.2.2) n (x3, x5, h)
def fX11_period (x0 : Nat) (x1 : Int32) (h : ZH) : Option (Int32 × ZH) :=
  if x0 < zn h ∧ zK h x0 = 11 then ((fX11_isSlot x1 h).bind fun q1 =>
  if q1.1 = 0 then (some ((-2 : Int32), q1.2)) else
  ((fX11_essentialOf x0 x1 q1.2).bind fun q3 =>
  zloop (lX11_period_21 x0 x1 q3.1) zfu ((lN 0), (nI 0), q3.2))) else none
theorem kX11_period {x0 : Nat} {x1 : Int32} {h : ZH} {x : Int32 × ZH} (e : fX11_period x0 x1 h = some x) : x0 < zn h ∧ zK h x0 = 11 := by
  unfold fX11_period at e
  exact zguard e
theorem mX11_period (b0 : Nat) (x0 : Nat) (x1 : Int32) (h : ZH) : ZM zi b0 YX11_period 4 [.ref (b0 + x0), .int x1] h (fX11_period x0 x1 h) := by
  unfold fX11_period
  refine ZM.of (by decide) rfl (Nat.le_of_ble_eq_true rfl) (fun _ => trivial) ?_
  refine z_sub (lv2 := [(0, .ref (b0 + x0)), (1, .int x1)]) [0, 1] rfl ?_
  refine z_guard (fun _ => ?_)
  refine z_iload_n 1 1 dX11_period_0 rfl rfl ?_
  refine z_callSi 4 (mX11_isSlot b0 x1 h) zyX11_isSlot rfl w_1154 wt_yX11_isSlot (Nat.le_of_ble_eq_true rfl) rfl (Nat.le_of_ble_eq_true rfl) dX11_period_1 rfl (fun q1 => ?_)
  refine z_if_ne 10 7 dX11_period_4 (by decide) rfl (fun c2 => ?_) (fun c2 => ?_)
  · refine z_aload_n 11 0 dX11_period_10 rfl rfl ?_
    refine z_iload_n 12 1 dX11_period_11 rfl rfl ?_
    refine z_callVi 15 (mX11_essentialOf b0 x0 x1 q1.2) zyX11_essentialOf rfl w_1231 (ci := 11) rfl (Nat.le_of_ble_eq_true rfl) (fun _ e9 => kX11_essentialOf e9) wm_yX11_essentialOf ws_yX11_essentialOf (Nat.le_of_ble_eq_true rfl) rfl (Nat.le_of_ble_eq_true rfl) dX11_period_12 rfl (fun q3 => ?_)
    refine z_istore_n (lv2 := [(2, .int q3.1), (0, .ref (b0 + x0)), (1, .int x1)]) 16 dX11_period_15 rfl (Nat.le_of_ble_eq_true rfl) rfl ?_
    refine z_lconst (lN 0) 17 rfl dX11_period_16 rfl ?_
    refine z_lstore_n (lv2 := [(3, .long (lN 0)), (2, .int q3.1), (0, .ref (b0 + x0)), (1, .int x1)]) 18 dX11_period_17 rfl (Nat.le_of_ble_eq_true rfl) rfl ?_
    refine z_iconst (nI 0) 19 zki_0 dX11_period_18 rfl ?_
    refine z_istore (lv2 := [(5, .int (nI 0)), (3, .long (lN 0)), (2, .int q3.1), (0, .ref (b0 + x0)), (1, .int x1)]) 21 dX11_period_19 rfl (Nat.le_of_ble_eq_true rfl) rfl ?_
    exact z_sub [3, 4, 2, 1, 0] rfl (BX11_period_21 b0 x0 x1 q3.1 zfu (lN 0) (nI 0) q3.2)
  · refine z_bipush (-2 : Int32) 9 zkb_m2 dX11_period_7 rfl ?_
    exact z_ireturn dX11_period_9 rfl
-- X11_prepare
def bX11_prepare_61 (self11 : Int32 × ZH → Option (ZH)) (self20 : Int32 × ZH → Option (ZH)) (x0 : Nat) (x1 : Int32) (x2 : Int32) (x3 : Int32) (t0 : Int32) (t1 : Int32) (t2 : Nat) (h : ZH) : Option (ZH) :=
  (sI h 14 t2 t1 t0).bind fun h1 =>
  self20 ((x3 + (nI 1)), h1)
theorem BX11_prepare_61 (b0 : Nat) (self11 : Int32 × ZH → Option (ZH)) (self20 : Int32 × ZH → Option (ZH)) (x0 : Nat) (x1 : Int32) (x2 : Int32) (x3 : Int32) (t0 : Int32) (t1 : Int32) (t2 : Nat) (h : ZH) (hself11 : ∀ (y2 : Int32) (hh : ZH), Zr zv b0 YX11_prepare 4 11 [(0, .ref (b0 + x0)), (1, .int x1), (2, .int y2)] [] hh (self11 (y2, hh))) (hself20 : ∀ (y3 : Int32) (hh : ZH), Zr zv b0 YX11_prepare 4 20 [(0, .ref (b0 + x0)), (1, .int x1), (2, .int x2), (3, .int y3)] [] hh (self20 (y3, hh))) : Zr zv b0 YX11_prepare 4 61 [(0, .ref (b0 + x0)), (1, .int x1), (2, .int x2), (3, .int x3)] [.int t0, .int t1, .ref (b0 + t2)] h (bX11_prepare_61 self11 self20 x0 x1 x2 x3 t0 t1 t2 h) := by
  unfold bX11_prepare_61
  refine z_iastore 62 dX11_prepare_61 rfl (fun h1 _ => ?_)
  refine z_iinc (lv2 := [(3, .int (x3 + (nI 1))), (0, .ref (b0 + x0)), (1, .int x1), (2, .int x2)]) (nI 1) 65 3 dX11_prepare_62 rfl rfl zki_1 (Nat.le_of_ble_eq_true rfl) rfl ?_
  refine z_goto 20 dX11_prepare_65 (by decide) ?_
  exact z_sub [1, 2, 3, 0] rfl (hself20 (x3 + (nI 1)) h1)
def kX11_prepare_20 (self11 : Int32 × ZH → Option (ZH)) (x0 : Nat) (x1 : Int32) (x2 : Int32) (self20 : Int32 × ZH → Option (ZH)) (x3 : Int32) (h : ZH) : Option (ZH) :=
  if (nI 4) ≤ x3 then (self11 ((x2 + (nI 1)), h)) else
  ((gR h 11 x0 13).bind fun v2 =>
  (gI h 11 x0 14).bind fun v3 =>
  if (x2 &&& (v3 ^^^ (-1 : Int32))) = 0 then ((fX11_image x0 x1 x2 x3 h).bind fun q5 =>
  (gI q5.2 11 x0 14).bind fun v6 =>
  bX11_prepare_61 self11 self20 x0 x1 x2 x3 (q5.1 &&& v6) (((nI 4) * x2) + x3) v2 q5.2) else
  (bX11_prepare_61 self11 self20 x0 x1 x2 x3 (nI 0) (((nI 4) * x2) + x3) v2 h))
def lX11_prepare_20 (self11 : Int32 × ZH → Option (ZH)) (x0 : Nat) (x1 : Int32) (x2 : Int32) : (Int32 × ZH → Option (ZH)) → Int32 × ZH → Option (ZH) := fun self s => kX11_prepare_20 self11 x0 x1 x2 self s.1 s.2
theorem KX11_prepare_20 (b0 : Nat) (self11 : Int32 × ZH → Option (ZH)) (x0 : Nat) (x1 : Int32) (x2 : Int32) (hself11 : ∀ (y2 : Int32) (hh : ZH), Zr zv b0 YX11_prepare 4 11 [(0, .ref (b0 + x0)), (1, .int x1), (2, .int y2)] [] hh (self11 (y2, hh))) (self20 : Int32 × ZH → Option (ZH)) (hself20 : ∀ (y3 : Int32) (hh : ZH), Zr zv b0 YX11_prepare 4 20 [(0, .ref (b0 + x0)), (1, .int x1), (2, .int x2), (3, .int y3)] [] hh (self20 (y3, hh))) (x3 : Int32) (h : ZH) : Zr zv b0 YX11_prepare 4 20 [(0, .ref (b0 + x0)), (1, .int x1), (2, .int x2), (3, .int x3)] [] h (kX11_prepare_20 self11 x0 x1 x2 self20 x3 h) := by
  unfold kX11_prepare_20
  refine z_iload_n 21 3 dX11_prepare_20 rfl rfl ?_
  refine z_iconst (nI 4) 22 zki_4 dX11_prepare_21 rfl ?_
  refine z_icmp_ge 68 25 dX11_prepare_22 (by decide) rfl (fun c1 => ?_) (fun c1 => ?_)
  · refine z_iinc (lv2 := [(2, .int (x2 + (nI 1))), (0, .ref (b0 + x0)), (1, .int x1), (3, .int x3)]) (nI 1) 71 2 dX11_prepare_68 rfl rfl zki_1 (Nat.le_of_ble_eq_true rfl) rfl ?_
    refine z_goto 11 dX11_prepare_71 (by decide) ?_
    exact z_sub [1, 2, 0] rfl (hself11 (x2 + (nI 1)) h)
  · refine z_aload_n 26 0 dX11_prepare_25 rfl rfl ?_
    refine z_getR 29 zC11 (Nat.le_of_ble_eq_true rfl) rfl w_1030 dX11_prepare_26 rfl (fun v2 _ => ?_)
    refine z_iconst (nI 4) 30 zki_4 dX11_prepare_29 rfl ?_
    refine z_iload_n 31 2 dX11_prepare_30 rfl rfl ?_
    refine z_imul 32 dX11_prepare_31 rfl ?_
    refine z_iload_n 33 3 dX11_prepare_32 rfl rfl ?_
    refine z_iadd 34 dX11_prepare_33 rfl ?_
    refine z_iload_n 35 2 dX11_prepare_34 rfl rfl ?_
    refine z_aload_n 36 0 dX11_prepare_35 rfl rfl ?_
    refine z_getI 39 zC11 (Nat.le_of_ble_eq_true rfl) rfl w_1031 dX11_prepare_36 rfl (fun v3 _ => ?_)
    refine z_iconst (-1 : Int32) 40 zki_m1 dX11_prepare_39 rfl ?_
    refine z_ixor 41 dX11_prepare_40 rfl ?_
    refine z_iand 42 dX11_prepare_41 rfl ?_
    refine z_if_ne 60 45 dX11_prepare_42 (by decide) rfl (fun c4 => ?_) (fun c4 => ?_)
    · refine z_iconst (nI 0) 61 zki_0 dX11_prepare_60 rfl ?_
      exact z_sub [0, 1, 2, 3] rfl (BX11_prepare_61 b0 self11 self20 x0 x1 x2 x3 (nI 0) (((nI 4) * x2) + x3) v2 h hself11 hself20)
    · refine z_aload_n 46 0 dX11_prepare_45 rfl rfl ?_
      refine z_iload_n 47 1 dX11_prepare_46 rfl rfl ?_
      refine z_iload_n 48 2 dX11_prepare_47 rfl rfl ?_
      refine z_iload_n 49 3 dX11_prepare_48 rfl rfl ?_
      refine z_callVi 52 (mX11_image b0 x0 x1 x2 x3 h) zyX11_image rfl w_1267 (ci := 11) rfl (Nat.le_of_ble_eq_true rfl) (fun _ e9 => kX11_image e9) wm_yX11_image ws_yX11_image (Nat.le_of_ble_eq_true rfl) rfl (Nat.le_of_ble_eq_true rfl) dX11_prepare_49 rfl (fun q5 => ?_)
      refine z_aload_n 53 0 dX11_prepare_52 rfl rfl ?_
      refine z_getI 56 zC11 (Nat.le_of_ble_eq_true rfl) rfl w_1031 dX11_prepare_53 rfl (fun v6 _ => ?_)
      refine z_iand 57 dX11_prepare_56 rfl ?_
      refine z_goto 61 dX11_prepare_57 (by decide) ?_
      exact z_sub [0, 1, 2, 3] rfl (BX11_prepare_61 b0 self11 self20 x0 x1 x2 x3 (q5.1 &&& v6) (((nI 4) * x2) + x3) v2 q5.2 hself11 hself20)
theorem BX11_prepare_20 (b0 : Nat) (self11 : Int32 × ZH → Option (ZH)) (x0 : Nat) (x1 : Int32) (x2 : Int32) (hself11 : ∀ (y2 : Int32) (hh : ZH), Zr zv b0 YX11_prepare 4 11 [(0, .ref (b0 + x0)), (1, .int x1), (2, .int y2)] [] hh (self11 (y2, hh))) (n : Nat) (x3 : Int32) (h : ZH) : Zr zv b0 YX11_prepare 4 20 [(0, .ref (b0 + x0)), (1, .int x1), (2, .int x2), (3, .int x3)] [] h (zloop (lX11_prepare_20 self11 x0 x1 x2) n (x3, h)) :=
  zloop_Zr (fun s => [(0, .ref (b0 + x0)), (1, .int x1), (2, .int x2), (3, .int s.1)]) (fun _ => []) (fun s => s.2) (lX11_prepare_20 self11 x0 x1 x2) (fun self hs s => KX11_prepare_20 b0 self11 x0 x1 x2 hself11 self (fun y3 hh => hs (y3, hh)) s.1 s.2) n (x3, h)
def kX11_prepare_11 (x0 : Nat) (x1 : Int32) (self11 : Int32 × ZH → Option (ZH)) (x2 : Int32) (h : ZH) : Option (ZH) :=
  if (nI 256) ≤ x2 then (some h) else
  (zloop (lX11_prepare_20 self11 x0 x1 x2) zfu ((nI 0), h))
def lX11_prepare_11 (x0 : Nat) (x1 : Int32) : (Int32 × ZH → Option (ZH)) → Int32 × ZH → Option (ZH) := fun self s => kX11_prepare_11 x0 x1 self s.1 s.2
theorem KX11_prepare_11 (b0 : Nat) (x0 : Nat) (x1 : Int32) (self11 : Int32 × ZH → Option (ZH)) (hself11 : ∀ (y2 : Int32) (hh : ZH), Zr zv b0 YX11_prepare 4 11 [(0, .ref (b0 + x0)), (1, .int x1), (2, .int y2)] [] hh (self11 (y2, hh))) (x2 : Int32) (h : ZH) : Zr zv b0 YX11_prepare 4 11 [(0, .ref (b0 + x0)), (1, .int x1), (2, .int x2)] [] h (kX11_prepare_11 x0 x1 self11 x2 h) := by
  unfold kX11_prepare_11
  refine z_iload_n 12 2 dX11_prepare_11 rfl rfl ?_
  refine z_sipush (nI 256) 15 zks_256 dX11_prepare_12 rfl ?_
  refine z_icmp_ge 74 18 dX11_prepare_15 (by decide) rfl (fun c1 => ?_) (fun c1 => ?_)
  · exact z_return dX11_prepare_74 rfl
  · refine z_iconst (nI 0) 19 zki_0 dX11_prepare_18 rfl ?_
    refine z_istore_n (lv2 := [(3, .int (nI 0)), (0, .ref (b0 + x0)), (1, .int x1), (2, .int x2)]) 20 dX11_prepare_19 rfl (Nat.le_of_ble_eq_true rfl) rfl ?_
    exact z_sub [1, 2, 3, 0] rfl (BX11_prepare_20 b0 self11 x0 x1 x2 hself11 zfu (nI 0) h)
theorem BX11_prepare_11 (b0 : Nat) (x0 : Nat) (x1 : Int32) (n : Nat) (x2 : Int32) (h : ZH) : Zr zv b0 YX11_prepare 4 11 [(0, .ref (b0 + x0)), (1, .int x1), (2, .int x2)] [] h (zloop (lX11_prepare_11 x0 x1) n (x2, h)) :=
  zloop_Zr (fun s => [(0, .ref (b0 + x0)), (1, .int x1), (2, .int s.1)]) (fun _ => []) (fun s => s.2) (lX11_prepare_11 x0 x1) (fun self hs s => KX11_prepare_11 b0 x0 x1 self (fun y2 hh => hs (y2, hh)) s.1 s.2) n (x2, h)
def fX11_prepare (x0 : Nat) (x1 : Int32) (h : ZH) : Option (ZH) :=
  if x0 < zn h ∧ zK h x0 = 11 then ((fX11_essentialOf x0 x1 h).bind fun q1 =>
  (pI q1.2 11 x0 14 q1.1).bind fun h2 =>
  zloop (lX11_prepare_11 x0 x1) zfu ((nI 0), h2)) else none
theorem kX11_prepare {x0 : Nat} {x1 : Int32} {h : ZH} {x : ZH} (e : fX11_prepare x0 x1 h = some x) : x0 < zn h ∧ zK h x0 = 11 := by
  unfold fX11_prepare at e
  exact zguard e
theorem mX11_prepare (b0 : Nat) (x0 : Nat) (x1 : Int32) (h : ZH) : ZM zv b0 YX11_prepare 4 [.ref (b0 + x0), .int x1] h (fX11_prepare x0 x1 h) := by
  unfold fX11_prepare
  refine ZM.of (by decide) rfl (Nat.le_of_ble_eq_true rfl) (fun _ => trivial) ?_
  refine z_sub (lv2 := [(0, .ref (b0 + x0)), (1, .int x1)]) [0, 1] rfl ?_
  refine z_guard (fun _ => ?_)
  refine z_aload_n 1 0 dX11_prepare_0 rfl rfl ?_
  refine z_aload_n 2 0 dX11_prepare_1 rfl rfl ?_
  refine z_iload_n 3 1 dX11_prepare_2 rfl rfl ?_
  refine z_callVi 6 (mX11_essentialOf b0 x0 x1 h) zyX11_essentialOf rfl w_1231 (ci := 11) rfl (Nat.le_of_ble_eq_true rfl) (fun _ e9 => kX11_essentialOf e9) wm_yX11_essentialOf ws_yX11_essentialOf (Nat.le_of_ble_eq_true rfl) rfl (Nat.le_of_ble_eq_true rfl) dX11_prepare_3 rfl (fun q1 => ?_)
  refine z_putI 9 zC11 (Nat.le_of_ble_eq_true rfl) rfl rfl rfl w_1031 dX11_prepare_6 rfl (fun h2 _ => ?_)
  refine z_iconst (nI 0) 10 zki_0 dX11_prepare_9 rfl ?_
  refine z_istore_n (lv2 := [(2, .int (nI 0)), (0, .ref (b0 + x0)), (1, .int x1)]) 11 dX11_prepare_10 rfl (Nat.le_of_ble_eq_true rfl) rfl ?_
  exact z_sub [1, 2, 0] rfl (BX11_prepare_11 b0 x0 x1 zfu (nI 0) h2)
-- X11_countTo
def kX11_countTo_52 (self32 : Int32 × ZH → Option (ZH)) (self39 : Int32 × ZH → Option (ZH)) (x0 : Nat) (x1 : Int32) (x2 : Int32) (x3 : Int32) (self52 : Int64 × Int32 × ZH → Option (ZH)) (x4 : Int64) (x6 : Int32) (h : ZH) : Option (ZH) :=
  if (nI 4) ≤ x6 then ((gR h 11 x0 15).bind fun v2 =>
  (sJ h v2 (((nI 256) * x2) + x3) x4).bind fun h3 =>
  self39 ((x3 + (nI 1)), h3)) else
  ((gR h 11 x0 15).bind fun v4 =>
  (gR h 11 x0 13).bind fun v5 =>
  (lI h 14 v5 (((nI 4) * x3) + x6)).bind fun v6 =>
  (lJ h v4 (((nI 256) * (x2 - (nI 1))) + v6)).bind fun v7 =>
  zl (x4 + v7) fun v8 =>
  self52 (v8, (x6 + (nI 1)), h))
def lX11_countTo_52 (self32 : Int32 × ZH → Option (ZH)) (self39 : Int32 × ZH → Option (ZH)) (x0 : Nat) (x1 : Int32) (x2 : Int32) (x3 : Int32) : (Int64 × Int32 × ZH → Option (ZH)) → Int64 × Int32 × ZH → Option (ZH) := fun self s => kX11_countTo_52 self32 self39 x0 x1 x2 x3 self s.1 s.2.1 s.2.2
theorem KX11_countTo_52 (b0 : Nat) (self32 : Int32 × ZH → Option (ZH)) (self39 : Int32 × ZH → Option (ZH)) (x0 : Nat) (x1 : Int32) (x2 : Int32) (x3 : Int32) (hself32 : ∀ (y2 : Int32) (hh : ZH), Zr zv b0 YX11_countTo 1 32 [(0, .ref (b0 + x0)), (1, .int x1), (2, .int y2)] [] hh (self32 (y2, hh))) (hself39 : ∀ (y3 : Int32) (hh : ZH), Zr zv b0 YX11_countTo 1 39 [(0, .ref (b0 + x0)), (1, .int x1), (2, .int x2), (3, .int y3)] [] hh (self39 (y3, hh))) (self52 : Int64 × Int32 × ZH → Option (ZH)) (hself52 : ∀ (y4 : Int64) (y6 : Int32) (hh : ZH), Zr zv b0 YX11_countTo 1 52 [(0, .ref (b0 + x0)), (1, .int x1), (2, .int x2), (3, .int x3), (4, .long y4), (6, .int y6)] [] hh (self52 (y4, y6, hh))) (x4 : Int64) (x6 : Int32) (h : ZH) : Zr zv b0 YX11_countTo 1 52 [(0, .ref (b0 + x0)), (1, .int x1), (2, .int x2), (3, .int x3), (4, .long x4), (6, .int x6)] [] h (kX11_countTo_52 self32 self39 x0 x1 x2 x3 self52 x4 x6 h) := by
  unfold kX11_countTo_52
  refine z_iload 54 5 dX11_countTo_52 rfl rfl ?_
  refine z_iconst (nI 4) 55 zki_4 dX11_countTo_54 rfl ?_
  refine z_icmp_ge 93 58 dX11_countTo_55 (by decide) rfl (fun c1 => ?_) (fun c1 => ?_)
  · refine z_aload_n 94 0 dX11_countTo_93 rfl rfl ?_
    refine z_getR 97 zC11 (Nat.le_of_ble_eq_true rfl) rfl w_1032 dX11_countTo_94 rfl (fun v2 _ => ?_)
    refine z_sipush (nI 256) 100 zks_256 dX11_countTo_97 rfl ?_
    refine z_iload_n 101 2 dX11_countTo_100 rfl rfl ?_
    refine z_imul 102 dX11_countTo_101 rfl ?_
    refine z_iload_n 103 3 dX11_countTo_102 rfl rfl ?_
    refine z_iadd 104 dX11_countTo_103 rfl ?_
    refine z_lload 106 4 dX11_countTo_104 rfl rfl ?_
    refine z_lastore 107 dX11_countTo_106 rfl (fun h3 _ => ?_)
    refine z_iinc (lv2 := [(3, .int (x3 + (nI 1))), (0, .ref (b0 + x0)), (1, .int x1), (2, .int x2), (4, .long x4), (6, .int x6)]) (nI 1) 110 3 dX11_countTo_107 rfl rfl zki_1 (Nat.le_of_ble_eq_true rfl) rfl ?_
    refine z_goto 39 dX11_countTo_110 (by decide) ?_
    exact z_sub [1, 2, 3, 0] rfl (hself39 (x3 + (nI 1)) h3)
  · refine z_lload 60 4 dX11_countTo_58 rfl rfl ?_
    refine z_aload_n 61 0 dX11_countTo_60 rfl rfl ?_
    refine z_getR 64 zC11 (Nat.le_of_ble_eq_true rfl) rfl w_1032 dX11_countTo_61 rfl (fun v4 _ => ?_)
    refine z_sipush (nI 256) 67 zks_256 dX11_countTo_64 rfl ?_
    refine z_iload_n 68 2 dX11_countTo_67 rfl rfl ?_
    refine z_iconst (nI 1) 69 zki_1 dX11_countTo_68 rfl ?_
    refine z_isub 70 dX11_countTo_69 rfl ?_
    refine z_imul 71 dX11_countTo_70 rfl ?_
    refine z_aload_n 72 0 dX11_countTo_71 rfl rfl ?_
    refine z_getR 75 zC11 (Nat.le_of_ble_eq_true rfl) rfl w_1030 dX11_countTo_72 rfl (fun v5 _ => ?_)
    refine z_iconst (nI 4) 76 zki_4 dX11_countTo_75 rfl ?_
    refine z_iload_n 77 3 dX11_countTo_76 rfl rfl ?_
    refine z_imul 78 dX11_countTo_77 rfl ?_
    refine z_iload 80 5 dX11_countTo_78 rfl rfl ?_
    refine z_iadd 81 dX11_countTo_80 rfl ?_
    refine z_iaload 82 dX11_countTo_81 rfl (fun v6 _ => ?_)
    refine z_iadd 83 dX11_countTo_82 rfl ?_
    refine z_laload 84 dX11_countTo_83 rfl (fun v7 _ => ?_)
    refine z_ladd 85 dX11_countTo_84 rfl ?_
    refine z_letJ (fun v8 _ => ?_)
    refine z_lstore (lv2 := [(4, .long v8), (0, .ref (b0 + x0)), (1, .int x1), (2, .int x2), (3, .int x3), (6, .int x6)]) 87 dX11_countTo_85 rfl (Nat.le_of_ble_eq_true rfl) rfl ?_
    refine z_iinc (lv2 := [(6, .int (x6 + (nI 1))), (4, .long v8), (0, .ref (b0 + x0)), (1, .int x1), (2, .int x2), (3, .int x3)]) (nI 1) 90 5 dX11_countTo_87 rfl rfl zki_1 (Nat.le_of_ble_eq_true rfl) rfl ?_
    refine z_goto 52 dX11_countTo_90 (by decide) ?_
    exact z_sub [2, 3, 4, 5, 1, 0] rfl (hself52 v8 (x6 + (nI 1)) h)
theorem BX11_countTo_52 (b0 : Nat) (self32 : Int32 × ZH → Option (ZH)) (self39 : Int32 × ZH → Option (ZH)) (x0 : Nat) (x1 : Int32) (x2 : Int32) (x3 : Int32) (hself32 : ∀ (y2 : Int32) (hh : ZH), Zr zv b0 YX11_countTo 1 32 [(0, .ref (b0 + x0)), (1, .int x1), (2, .int y2)] [] hh (self32 (y2, hh))) (hself39 : ∀ (y3 : Int32) (hh : ZH), Zr zv b0 YX11_countTo 1 39 [(0, .ref (b0 + x0)), (1, .int x1), (2, .int x2), (3, .int y3)] [] hh (self39 (y3, hh))) (n : Nat) (x4 : Int64) (x6 : Int32) (h : ZH) : Zr zv b0 YX11_countTo 1 52 [(0, .ref (b0 + x0)), (1, .int x1), (2, .int x2), (3, .int x3), (4, .long x4), (6, .int x6)] [] h (zloop (lX11_countTo_52 self32 self39 x0 x1 x2 x3) n (x4, x6, h)) :=
  zloop_Zr (fun s => [(0, .ref (b0 + x0)), (1, .int x1), (2, .int x2), (3, .int x3), (4, .long s.1), (6, .int s.2.1)]) (fun _ => []) (fun s => s.2.2) (lX11_countTo_52 self32 self39 x0 x1 x2 x3) (fun self hs s => KX11_countTo_52 b0 self32 self39 x0 x1 x2 x3 hself32 hself39 self (fun y4 y6 hh => hs (y4, y6, hh)) s.1 s.2.1 s.2.2) n (x4, x6, h)
def kX11_countTo_39 (self32 : Int32 × ZH → Option (ZH)) (x0 : Nat) (x1 : Int32) (x2 : Int32) (self39 : Int32 × ZH → Option (ZH)) (x3 : Int32) (h : ZH) : Option (ZH) :=
  if (nI 256) ≤ x3 then (self32 ((x2 + (nI 1)), h)) else
  (zloop (lX11_countTo_52 self32 self39 x0 x1 x2 x3) zfu ((lN 0), (nI 0), h))
def lX11_countTo_39 (self32 : Int32 × ZH → Option (ZH)) (x0 : Nat) (x1 : Int32) (x2 : Int32) : (Int32 × ZH → Option (ZH)) → Int32 × ZH → Option (ZH) := fun self s => kX11_countTo_39 self32 x0 x1 x2 self s.1 s.2
theorem KX11_countTo_39 (b0 : Nat) (self32 : Int32 × ZH → Option (ZH)) (x0 : Nat) (x1 : Int32) (x2 : Int32) (hself32 : ∀ (y2 : Int32) (hh : ZH), Zr zv b0 YX11_countTo 1 32 [(0, .ref (b0 + x0)), (1, .int x1), (2, .int y2)] [] hh (self32 (y2, hh))) (self39 : Int32 × ZH → Option (ZH)) (hself39 : ∀ (y3 : Int32) (hh : ZH), Zr zv b0 YX11_countTo 1 39 [(0, .ref (b0 + x0)), (1, .int x1), (2, .int x2), (3, .int y3)] [] hh (self39 (y3, hh))) (x3 : Int32) (h : ZH) : Zr zv b0 YX11_countTo 1 39 [(0, .ref (b0 + x0)), (1, .int x1), (2, .int x2), (3, .int x3)] [] h (kX11_countTo_39 self32 x0 x1 x2 self39 x3 h) := by
  unfold kX11_countTo_39
  refine z_iload_n 40 3 dX11_countTo_39 rfl rfl ?_
  refine z_sipush (nI 256) 43 zks_256 dX11_countTo_40 rfl ?_
  refine z_icmp_ge 113 46 dX11_countTo_43 (by decide) rfl (fun c1 => ?_) (fun c1 => ?_)
  · refine z_iinc (lv2 := [(2, .int (x2 + (nI 1))), (0, .ref (b0 + x0)), (1, .int x1), (3, .int x3)]) (nI 1) 116 2 dX11_countTo_113 rfl rfl zki_1 (Nat.le_of_ble_eq_true rfl) rfl ?_
    refine z_goto 32 dX11_countTo_116 (by decide) ?_
    exact z_sub [1, 2, 0] rfl (hself32 (x2 + (nI 1)) h)
  · refine z_lconst (lN 0) 47 rfl dX11_countTo_46 rfl ?_
    refine z_lstore (lv2 := [(4, .long (lN 0)), (0, .ref (b0 + x0)), (1, .int x1), (2, .int x2), (3, .int x3)]) 49 dX11_countTo_47 rfl (Nat.le_of_ble_eq_true rfl) rfl ?_
    refine z_iconst (nI 0) 50 zki_0 dX11_countTo_49 rfl ?_
    refine z_istore (lv2 := [(6, .int (nI 0)), (4, .long (lN 0)), (0, .ref (b0 + x0)), (1, .int x1), (2, .int x2), (3, .int x3)]) 52 dX11_countTo_50 rfl (Nat.le_of_ble_eq_true rfl) rfl ?_
    exact z_sub [2, 3, 4, 5, 1, 0] rfl (BX11_countTo_52 b0 self32 self39 x0 x1 x2 x3 hself32 hself39 zfu (lN 0) (nI 0) h)
theorem BX11_countTo_39 (b0 : Nat) (self32 : Int32 × ZH → Option (ZH)) (x0 : Nat) (x1 : Int32) (x2 : Int32) (hself32 : ∀ (y2 : Int32) (hh : ZH), Zr zv b0 YX11_countTo 1 32 [(0, .ref (b0 + x0)), (1, .int x1), (2, .int y2)] [] hh (self32 (y2, hh))) (n : Nat) (x3 : Int32) (h : ZH) : Zr zv b0 YX11_countTo 1 39 [(0, .ref (b0 + x0)), (1, .int x1), (2, .int x2), (3, .int x3)] [] h (zloop (lX11_countTo_39 self32 x0 x1 x2) n (x3, h)) :=
  zloop_Zr (fun s => [(0, .ref (b0 + x0)), (1, .int x1), (2, .int x2), (3, .int s.1)]) (fun _ => []) (fun s => s.2) (lX11_countTo_39 self32 x0 x1 x2) (fun self hs s => KX11_countTo_39 b0 self32 x0 x1 x2 hself32 self (fun y3 hh => hs (y3, hh)) s.1 s.2) n (x3, h)
def kX11_countTo_32 (x0 : Nat) (x1 : Int32) (self32 : Int32 × ZH → Option (ZH)) (x2 : Int32) (h : ZH) : Option (ZH) :=
  if x1 < x2 then (some h) else
  (zloop (lX11_countTo_39 self32 x0 x1 x2) zfu ((nI 0), h))
def lX11_countTo_32 (x0 : Nat) (x1 : Int32) : (Int32 × ZH → Option (ZH)) → Int32 × ZH → Option (ZH) := fun self s => kX11_countTo_32 x0 x1 self s.1 s.2
theorem KX11_countTo_32 (b0 : Nat) (x0 : Nat) (x1 : Int32) (self32 : Int32 × ZH → Option (ZH)) (hself32 : ∀ (y2 : Int32) (hh : ZH), Zr zv b0 YX11_countTo 1 32 [(0, .ref (b0 + x0)), (1, .int x1), (2, .int y2)] [] hh (self32 (y2, hh))) (x2 : Int32) (h : ZH) : Zr zv b0 YX11_countTo 1 32 [(0, .ref (b0 + x0)), (1, .int x1), (2, .int x2)] [] h (kX11_countTo_32 x0 x1 self32 x2 h) := by
  unfold kX11_countTo_32
  refine z_iload_n 33 2 dX11_countTo_32 rfl rfl ?_
  refine z_iload_n 34 1 dX11_countTo_33 rfl rfl ?_
  refine z_icmp_gt 119 37 dX11_countTo_34 (by decide) rfl (fun c1 => ?_) (fun c1 => ?_)
  · exact z_return dX11_countTo_119 rfl
  · refine z_iconst (nI 0) 38 zki_0 dX11_countTo_37 rfl ?_
    refine z_istore_n (lv2 := [(3, .int (nI 0)), (0, .ref (b0 + x0)), (1, .int x1), (2, .int x2)]) 39 dX11_countTo_38 rfl (Nat.le_of_ble_eq_true rfl) rfl ?_
    exact z_sub [1, 2, 3, 0] rfl (BX11_countTo_39 b0 self32 x0 x1 x2 hself32 zfu (nI 0) h)
theorem BX11_countTo_32 (b0 : Nat) (x0 : Nat) (x1 : Int32) (n : Nat) (x2 : Int32) (h : ZH) : Zr zv b0 YX11_countTo 1 32 [(0, .ref (b0 + x0)), (1, .int x1), (2, .int x2)] [] h (zloop (lX11_countTo_32 x0 x1) n (x2, h)) :=
  zloop_Zr (fun s => [(0, .ref (b0 + x0)), (1, .int x1), (2, .int s.1)]) (fun _ => []) (fun s => s.2) (lX11_countTo_32 x0 x1) (fun self hs s => KX11_countTo_32 b0 x0 x1 self (fun y2 hh => hs (y2, hh)) s.1 s.2) n (x2, h)
def bX11_countTo_23 (self2 : Int32 × ZH → Option (ZH)) (x0 : Nat) (x1 : Int32) (x2 : Int32) (t0 : Int64) (t1 : Int32) (t2 : Nat) (h : ZH) : Option (ZH) :=
  (sJ h t2 t1 t0).bind fun h1 =>
  self2 ((x2 + (nI 1)), h1)
theorem BX11_countTo_23 (b0 : Nat) (self2 : Int32 × ZH → Option (ZH)) (x0 : Nat) (x1 : Int32) (x2 : Int32) (t0 : Int64) (t1 : Int32) (t2 : Nat) (h : ZH) (hself2 : ∀ (y2 : Int32) (hh : ZH), Zr zv b0 YX11_countTo 1 2 [(0, .ref (b0 + x0)), (1, .int x1), (2, .int y2)] [] hh (self2 (y2, hh))) : Zr zv b0 YX11_countTo 1 23 [(0, .ref (b0 + x0)), (1, .int x1), (2, .int x2)] [.long t0, .int t1, .ref (b0 + t2)] h (bX11_countTo_23 self2 x0 x1 x2 t0 t1 t2 h) := by
  unfold bX11_countTo_23
  refine z_lastore 24 dX11_countTo_23 rfl (fun h1 _ => ?_)
  refine z_iinc (lv2 := [(2, .int (x2 + (nI 1))), (0, .ref (b0 + x0)), (1, .int x1)]) (nI 1) 27 2 dX11_countTo_24 rfl rfl zki_1 (Nat.le_of_ble_eq_true rfl) rfl ?_
  refine z_goto 2 dX11_countTo_27 (by decide) ?_
  exact z_sub [1, 2, 0] rfl (hself2 (x2 + (nI 1)) h1)
def kX11_countTo_2 (x0 : Nat) (x1 : Int32) (self2 : Int32 × ZH → Option (ZH)) (x2 : Int32) (h : ZH) : Option (ZH) :=
  if (nI 256) ≤ x2 then (zloop (lX11_countTo_32 x0 x1) zfu ((nI 1), h)) else
  ((gR h 11 x0 15).bind fun v2 =>
  if x2 = 0 then (bX11_countTo_23 self2 x0 x1 x2 (lN 0) x2 v2 h) else
  (bX11_countTo_23 self2 x0 x1 x2 (lN 1) x2 v2 h))
def lX11_countTo_2 (x0 : Nat) (x1 : Int32) : (Int32 × ZH → Option (ZH)) → Int32 × ZH → Option (ZH) := fun self s => kX11_countTo_2 x0 x1 self s.1 s.2
theorem KX11_countTo_2 (b0 : Nat) (x0 : Nat) (x1 : Int32) (self2 : Int32 × ZH → Option (ZH)) (hself2 : ∀ (y2 : Int32) (hh : ZH), Zr zv b0 YX11_countTo 1 2 [(0, .ref (b0 + x0)), (1, .int x1), (2, .int y2)] [] hh (self2 (y2, hh))) (x2 : Int32) (h : ZH) : Zr zv b0 YX11_countTo 1 2 [(0, .ref (b0 + x0)), (1, .int x1), (2, .int x2)] [] h (kX11_countTo_2 x0 x1 self2 x2 h) := by
  unfold kX11_countTo_2
  refine z_iload_n 3 2 dX11_countTo_2 rfl rfl ?_
  refine z_sipush (nI 256) 6 zks_256 dX11_countTo_3 rfl ?_
  refine z_icmp_ge 30 9 dX11_countTo_6 (by decide) rfl (fun c1 => ?_) (fun c1 => ?_)
  · refine z_iconst (nI 1) 31 zki_1 dX11_countTo_30 rfl ?_
    refine z_istore_n (lv2 := [(2, .int (nI 1)), (0, .ref (b0 + x0)), (1, .int x1)]) 32 dX11_countTo_31 rfl (Nat.le_of_ble_eq_true rfl) rfl ?_
    exact z_sub [1, 2, 0] rfl (BX11_countTo_32 b0 x0 x1 zfu (nI 1) h)
  · refine z_aload_n 10 0 dX11_countTo_9 rfl rfl ?_
    refine z_getR 13 zC11 (Nat.le_of_ble_eq_true rfl) rfl w_1032 dX11_countTo_10 rfl (fun v2 _ => ?_)
    refine z_iload_n 14 2 dX11_countTo_13 rfl rfl ?_
    refine z_iload_n 15 2 dX11_countTo_14 rfl rfl ?_
    refine z_if_ne 22 18 dX11_countTo_15 (by decide) rfl (fun c3 => ?_) (fun c3 => ?_)
    · refine z_lconst (lN 1) 23 rfl dX11_countTo_22 rfl ?_
      exact z_sub [0, 1, 2] rfl (BX11_countTo_23 b0 self2 x0 x1 x2 (lN 1) x2 v2 h hself2)
    · refine z_lconst (lN 0) 19 rfl dX11_countTo_18 rfl ?_
      refine z_goto 23 dX11_countTo_19 (by decide) ?_
      exact z_sub [0, 1, 2] rfl (BX11_countTo_23 b0 self2 x0 x1 x2 (lN 0) x2 v2 h hself2)
theorem BX11_countTo_2 (b0 : Nat) (x0 : Nat) (x1 : Int32) (n : Nat) (x2 : Int32) (h : ZH) : Zr zv b0 YX11_countTo 1 2 [(0, .ref (b0 + x0)), (1, .int x1), (2, .int x2)] [] h (zloop (lX11_countTo_2 x0 x1) n (x2, h)) :=
  zloop_Zr (fun s => [(0, .ref (b0 + x0)), (1, .int x1), (2, .int s.1)]) (fun _ => []) (fun s => s.2) (lX11_countTo_2 x0 x1) (fun self hs s => KX11_countTo_2 b0 x0 x1 self (fun y2 hh => hs (y2, hh)) s.1 s.2) n (x2, h)
def fX11_countTo (x0 : Nat) (x1 : Int32) (h : ZH) : Option (ZH) :=
  if x0 < zn h ∧ zK h x0 = 11 then (zloop (lX11_countTo_2 x0 x1) zfu ((nI 0), h)) else none
theorem kX11_countTo {x0 : Nat} {x1 : Int32} {h : ZH} {x : ZH} (e : fX11_countTo x0 x1 h = some x) : x0 < zn h ∧ zK h x0 = 11 := by
  unfold fX11_countTo at e
  exact zguard e
theorem mX11_countTo (b0 : Nat) (x0 : Nat) (x1 : Int32) (h : ZH) : ZM zv b0 YX11_countTo 1 [.ref (b0 + x0), .int x1] h (fX11_countTo x0 x1 h) := by
  unfold fX11_countTo
  refine ZM.of (by decide) rfl (Nat.le_of_ble_eq_true rfl) (fun _ => trivial) ?_
  refine z_sub (lv2 := [(0, .ref (b0 + x0)), (1, .int x1)]) [0, 1] rfl ?_
  refine z_guard (fun _ => ?_)
  refine z_iconst (nI 0) 1 zki_0 dX11_countTo_0 rfl ?_
  refine z_istore_n (lv2 := [(2, .int (nI 0)), (0, .ref (b0 + x0)), (1, .int x1)]) 2 dX11_countTo_1 rfl (Nat.le_of_ble_eq_true rfl) rfl ?_
  exact z_sub [1, 2, 0] rfl (BX11_countTo_2 b0 x0 x1 zfu (nI 0) h)
