-- X6_tailAfter
def bX6_tailAfter_18 (t0 : Int32) (h : ZH) : Option (Int32 × ZH) :=
  some (t0, h)
theorem BX6_tailAfter_18 (b0 : Nat) (t0 : Int32) (h : ZH) : Zr zi b0 YX6_tailAfter 2 18 [] [.int t0] h (bX6_tailAfter_18 t0 h) := by
  unfold bX6_tailAfter_18
  exact z_ireturn dX6_tailAfter_18 rfl
def fX6_tailAfter (x0 : Nat) (x1 : Int32) (x2 : Int32) (h : ZH) : Option (Int32 × ZH) :=
  if x0 < zn h ∧ zK h x0 = 6 then (if x1 = (-1 : Int32) then ((fX6_start x0 h).bind fun q3 =>
  bX6_tailAfter_18 q3.1 q3.2) else
  ((fX6_after x0 x1 x2 h).bind fun q2 =>
  bX6_tailAfter_18 q2.1 q2.2)) else none
theorem kX6_tailAfter {x0 : Nat} {x1 : Int32} {x2 : Int32} {h : ZH} {x : Int32 × ZH} (e : fX6_tailAfter x0 x1 x2 h = some x) : x0 < zn h ∧ zK h x0 = 6 := by
  unfold fX6_tailAfter at e
  exact zguard e
theorem mX6_tailAfter (b0 : Nat) (x0 : Nat) (x1 : Int32) (x2 : Int32) (h : ZH) : ZM zi b0 YX6_tailAfter 2 [.ref (b0 + x0), .int x1, .int x2] h (fX6_tailAfter x0 x1 x2 h) := by
  unfold fX6_tailAfter
  refine ZM.of (by decide) rfl (Nat.le_of_ble_eq_true rfl) (fun _ => trivial) ?_
  refine z_sub (lv2 := [(0, .ref (b0 + x0)), (1, .int x1), (2, .int x2)]) [0, 1, 2] rfl ?_
  refine z_guard (fun _ => ?_)
  refine z_iload_n 1 1 dX6_tailAfter_0 rfl rfl ?_
  refine z_iconst (-1 : Int32) 2 zki_m1 dX6_tailAfter_1 rfl ?_
  refine z_icmp_ne 12 5 dX6_tailAfter_2 (by decide) rfl (fun c1 => ?_) (fun c1 => ?_)
  · refine z_aload_n 13 0 dX6_tailAfter_12 rfl rfl ?_
    refine z_iload_n 14 1 dX6_tailAfter_13 rfl rfl ?_
    refine z_iload_n 15 2 dX6_tailAfter_14 rfl rfl ?_
    refine z_callVi 18 (mX6_after b0 x0 x1 x2 h) zyX6_after rfl w_565 (ci := 6) rfl (Nat.le_of_ble_eq_true rfl) (fun _ e9 => kX6_after e9) wm_yX6_after ws_yX6_after (Nat.le_of_ble_eq_true rfl) rfl (Nat.le_of_ble_eq_true rfl) dX6_tailAfter_15 rfl (fun q2 => ?_)
    exact z_sub [] rfl (BX6_tailAfter_18 b0 q2.1 q2.2 )
  · refine z_aload_n 6 0 dX6_tailAfter_5 rfl rfl ?_
    refine z_callVi 9 (mX6_start b0 x0 h) zyX6_start rfl w_556 (ci := 6) rfl (Nat.le_of_ble_eq_true rfl) (fun _ e9 => kX6_start e9) wm_yX6_start ws_yX6_start (Nat.le_of_ble_eq_true rfl) rfl (Nat.le_of_ble_eq_true rfl) dX6_tailAfter_6 rfl (fun q3 => ?_)
    refine z_goto 18 dX6_tailAfter_9 (by decide) ?_
    exact z_sub [] rfl (BX6_tailAfter_18 b0 q3.1 q3.2 )
-- X6_countForbiddenBy
def bX6_countForbiddenBy_68 (recX6_countForbiddenFrom : Nat → Int32 → Int32 → Int32 → ZH → Option (Int32 × ZH)) (t0 : Int32) (h : ZH) : Option (Int32 × ZH) :=
  some (t0, h)
theorem BX6_countForbiddenBy_68 (b0 : Nat) (recX6_countForbiddenFrom : Nat → Int32 → Int32 → Int32 → ZH → Option (Int32 × ZH)) (dr : Nat) (hdr : 5 ≤ dr) (hrecX6_countForbiddenFrom : ∀ (y0 : Nat) (y1 : Int32) (y2 : Int32) (y3 : Int32) (h : ZH), ZM zi b0 YX6_countForbiddenFrom dr [.ref (b0 + y0), .int y1, .int y2, .int y3] h (recX6_countForbiddenFrom y0 y1 y2 y3 h)) (hrkX6_countForbiddenFrom : ∀ {y0 : Nat} {y1 y2 y3 : Int32} {h : ZH} {x : Int32 × ZH}, recX6_countForbiddenFrom y0 y1 y2 y3 h = some x → y0 < zn h ∧ zK h y0 = 6) (t0 : Int32) (h : ZH) : Zr zi b0 YX6_countForbiddenBy (dr + 1) 68 [] [.int t0] h (bX6_countForbiddenBy_68 recX6_countForbiddenFrom t0 h) := by
  unfold bX6_countForbiddenBy_68
  exact z_ireturn dX6_countForbiddenBy_68 rfl
def bX6_countForbiddenBy_44 (recX6_countForbiddenFrom : Nat → Int32 → Int32 → Int32 → ZH → Option (Int32 × ZH)) (t0 : Int32) (h : ZH) : Option (Int32 × ZH) :=
  some (t0, h)
theorem BX6_countForbiddenBy_44 (b0 : Nat) (recX6_countForbiddenFrom : Nat → Int32 → Int32 → Int32 → ZH → Option (Int32 × ZH)) (dr : Nat) (hdr : 5 ≤ dr) (hrecX6_countForbiddenFrom : ∀ (y0 : Nat) (y1 : Int32) (y2 : Int32) (y3 : Int32) (h : ZH), ZM zi b0 YX6_countForbiddenFrom dr [.ref (b0 + y0), .int y1, .int y2, .int y3] h (recX6_countForbiddenFrom y0 y1 y2 y3 h)) (hrkX6_countForbiddenFrom : ∀ {y0 : Nat} {y1 y2 y3 : Int32} {h : ZH} {x : Int32 × ZH}, recX6_countForbiddenFrom y0 y1 y2 y3 h = some x → y0 < zn h ∧ zK h y0 = 6) (t0 : Int32) (h : ZH) : Zr zi b0 YX6_countForbiddenBy (dr + 1) 44 [] [.int t0] h (bX6_countForbiddenBy_44 recX6_countForbiddenFrom t0 h) := by
  unfold bX6_countForbiddenBy_44
  exact z_ireturn dX6_countForbiddenBy_44 rfl
def bX6_countForbiddenBy_43 (recX6_countForbiddenFrom : Nat → Int32 → Int32 → Int32 → ZH → Option (Int32 × ZH)) (h : ZH) : Option (Int32 × ZH) :=
  bX6_countForbiddenBy_44 recX6_countForbiddenFrom (nI 0) h
theorem BX6_countForbiddenBy_43 (b0 : Nat) (recX6_countForbiddenFrom : Nat → Int32 → Int32 → Int32 → ZH → Option (Int32 × ZH)) (dr : Nat) (hdr : 5 ≤ dr) (hrecX6_countForbiddenFrom : ∀ (y0 : Nat) (y1 : Int32) (y2 : Int32) (y3 : Int32) (h : ZH), ZM zi b0 YX6_countForbiddenFrom dr [.ref (b0 + y0), .int y1, .int y2, .int y3] h (recX6_countForbiddenFrom y0 y1 y2 y3 h)) (hrkX6_countForbiddenFrom : ∀ {y0 : Nat} {y1 y2 y3 : Int32} {h : ZH} {x : Int32 × ZH}, recX6_countForbiddenFrom y0 y1 y2 y3 h = some x → y0 < zn h ∧ zK h y0 = 6) (h : ZH) : Zr zi b0 YX6_countForbiddenBy (dr + 1) 43 [] [] h (bX6_countForbiddenBy_43 recX6_countForbiddenFrom h) := by
  unfold bX6_countForbiddenBy_43
  refine z_iconst (nI 0) 44 zki_0 dX6_countForbiddenBy_43 rfl ?_
  exact z_sub [] rfl (BX6_countForbiddenBy_44 b0 recX6_countForbiddenFrom dr hdr hrecX6_countForbiddenFrom hrkX6_countForbiddenFrom (nI 0) h )
def fX6_countForbiddenBy (recX6_countForbiddenFrom : Nat → Int32 → Int32 → Int32 → ZH → Option (Int32 × ZH)) (x0 : Nat) (x1 : Int32) (x2 : Int32) (x3 : Int32) (x4 : Int32) (h : ZH) : Option (Int32 × ZH) :=
  if x0 < zn h ∧ zK h x0 = 6 then ((fX6_after x0 x2 x4 h).bind fun q1 =>
  (fX6_tailAfter x0 x3 x4 q1.2).bind fun q2 =>
  if (nI 1) < x1 then (if q1.1 = (nI 255) then (bX6_countForbiddenBy_68 recX6_countForbiddenFrom (nI 0) q2.2) else
  ((recX6_countForbiddenFrom x0 (x1 - (nI 1)) q1.1 q2.1 q2.2).bind fun q5 =>
  bX6_countForbiddenBy_68 recX6_countForbiddenFrom q5.1 q5.2)) else
  (if q1.1 = (nI 255) then (if q2.1 = (nI 255) then (bX6_countForbiddenBy_43 recX6_countForbiddenFrom q2.2) else
  (bX6_countForbiddenBy_44 recX6_countForbiddenFrom (nI 1) q2.2)) else
  (bX6_countForbiddenBy_43 recX6_countForbiddenFrom q2.2))) else none
theorem kX6_countForbiddenBy {recX6_countForbiddenFrom : Nat → Int32 → Int32 → Int32 → ZH → Option (Int32 × ZH)} {x0 : Nat} {x1 : Int32} {x2 : Int32} {x3 : Int32} {x4 : Int32} {h : ZH} {x : Int32 × ZH} (e : fX6_countForbiddenBy recX6_countForbiddenFrom x0 x1 x2 x3 x4 h = some x) : x0 < zn h ∧ zK h x0 = 6 := by
  unfold fX6_countForbiddenBy at e
  exact zguard e
theorem mX6_countForbiddenBy (b0 : Nat) (recX6_countForbiddenFrom : Nat → Int32 → Int32 → Int32 → ZH → Option (Int32 × ZH)) (dr : Nat) (hdr : 5 ≤ dr) (hrecX6_countForbiddenFrom : ∀ (y0 : Nat) (y1 : Int32) (y2 : Int32) (y3 : Int32) (h : ZH), ZM zi b0 YX6_countForbiddenFrom dr [.ref (b0 + y0), .int y1, .int y2, .int y3] h (recX6_countForbiddenFrom y0 y1 y2 y3 h)) (hrkX6_countForbiddenFrom : ∀ {y0 : Nat} {y1 y2 y3 : Int32} {h : ZH} {x : Int32 × ZH}, recX6_countForbiddenFrom y0 y1 y2 y3 h = some x → y0 < zn h ∧ zK h y0 = 6) (x0 : Nat) (x1 : Int32) (x2 : Int32) (x3 : Int32) (x4 : Int32) (h : ZH) : ZM zi b0 YX6_countForbiddenBy (dr + 1) [.ref (b0 + x0), .int x1, .int x2, .int x3, .int x4] h (fX6_countForbiddenBy recX6_countForbiddenFrom x0 x1 x2 x3 x4 h) := by
  unfold fX6_countForbiddenBy
  refine ZM.of (by decide) rfl (Nat.le_of_ble_eq_true rfl) (fun _ => trivial) ?_
  refine z_sub (lv2 := [(0, .ref (b0 + x0)), (1, .int x1), (2, .int x2), (3, .int x3), (4, .int x4)]) [0, 1, 2, 3, 4] rfl ?_
  refine z_guard (fun _ => ?_)
  refine z_aload_n 1 0 dX6_countForbiddenBy_0 rfl rfl ?_
  refine z_iload_n 2 2 dX6_countForbiddenBy_1 rfl rfl ?_
  refine z_iload 4 4 dX6_countForbiddenBy_2 rfl rfl ?_
  refine z_callVi 7 (mX6_after b0 x0 x2 x4 h) zyX6_after rfl w_565 (ci := 6) rfl (Nat.le_of_ble_eq_true rfl) (fun _ e9 => kX6_after e9) wm_yX6_after ws_yX6_after (by omega) rfl (Nat.le_of_ble_eq_true rfl) dX6_countForbiddenBy_4 rfl (fun q1 => ?_)
  refine z_istore (lv2 := [(5, .int q1.1), (0, .ref (b0 + x0)), (1, .int x1), (2, .int x2), (3, .int x3), (4, .int x4)]) 9 dX6_countForbiddenBy_7 rfl (Nat.le_of_ble_eq_true rfl) rfl ?_
  refine z_aload_n 10 1 dX6_countForbiddenBy_9 rfl rfl ?_
  refine z_iload_n 11 4 dX6_countForbiddenBy_10 rfl rfl ?_
  refine z_iload 13 5 dX6_countForbiddenBy_11 rfl rfl ?_
  refine z_callVi 16 (mX6_tailAfter b0 x0 x3 x4 q1.2) zyX6_tailAfter rfl w_566 (ci := 6) rfl (Nat.le_of_ble_eq_true rfl) (fun _ e9 => kX6_tailAfter e9) wm_yX6_tailAfter ws_yX6_tailAfter (by omega) rfl (Nat.le_of_ble_eq_true rfl) dX6_countForbiddenBy_13 rfl (fun q2 => ?_)
  refine z_istore (lv2 := [(6, .int q2.1), (5, .int q1.1), (0, .ref (b0 + x0)), (1, .int x1), (2, .int x2), (3, .int x3), (4, .int x4)]) 18 dX6_countForbiddenBy_16 rfl (Nat.le_of_ble_eq_true rfl) rfl ?_
  refine z_iload_n 19 3 dX6_countForbiddenBy_18 rfl rfl ?_
  refine z_iconst (nI 1) 20 zki_1 dX6_countForbiddenBy_19 rfl ?_
  refine z_icmp_gt 45 23 dX6_countForbiddenBy_20 (by decide) rfl (fun c3 => ?_) (fun c3 => ?_)
  · refine z_iload 47 1 dX6_countForbiddenBy_45 rfl rfl ?_
    refine z_sipush (nI 255) 50 zks_255 dX6_countForbiddenBy_47 rfl ?_
    refine z_icmp_ne 57 53 dX6_countForbiddenBy_50 (by decide) rfl (fun c4 => ?_) (fun c4 => ?_)
    · refine z_aload_n 58 2 dX6_countForbiddenBy_57 rfl rfl ?_
      refine z_iload_n 59 3 dX6_countForbiddenBy_58 rfl rfl ?_
      refine z_iconst (nI 1) 60 zki_1 dX6_countForbiddenBy_59 rfl ?_
      refine z_isub 61 dX6_countForbiddenBy_60 rfl ?_
      refine z_iload 63 1 dX6_countForbiddenBy_61 rfl rfl ?_
      refine z_iload 65 0 dX6_countForbiddenBy_63 rfl rfl ?_
      refine z_callVi 68 (hrecX6_countForbiddenFrom x0 (x1 - (nI 1)) q1.1 q2.1 q2.2) zyX6_countForbiddenFrom rfl w_557 (ci := 6) rfl (Nat.le_of_ble_eq_true rfl) (fun _ e9 => hrkX6_countForbiddenFrom e9) wm_yX6_countForbiddenFrom ws_yX6_countForbiddenFrom (by omega) rfl (Nat.le_of_ble_eq_true rfl) dX6_countForbiddenBy_65 rfl (fun q5 => ?_)
      exact z_sub [] rfl (BX6_countForbiddenBy_68 b0 recX6_countForbiddenFrom dr hdr hrecX6_countForbiddenFrom hrkX6_countForbiddenFrom q5.1 q5.2 )
    · refine z_iconst (nI 0) 54 zki_0 dX6_countForbiddenBy_53 rfl ?_
      refine z_goto 68 dX6_countForbiddenBy_54 (by decide) ?_
      exact z_sub [] rfl (BX6_countForbiddenBy_68 b0 recX6_countForbiddenFrom dr hdr hrecX6_countForbiddenFrom hrkX6_countForbiddenFrom (nI 0) q2.2 )
  · refine z_iload 25 1 dX6_countForbiddenBy_23 rfl rfl ?_
    refine z_sipush (nI 255) 28 zks_255 dX6_countForbiddenBy_25 rfl ?_
    refine z_icmp_ne 43 31 dX6_countForbiddenBy_28 (by decide) rfl (fun c6 => ?_) (fun c6 => ?_)
    · exact z_sub [] rfl (BX6_countForbiddenBy_43 b0 recX6_countForbiddenFrom dr hdr hrecX6_countForbiddenFrom hrkX6_countForbiddenFrom q2.2 )
    · refine z_iload 33 0 dX6_countForbiddenBy_31 rfl rfl ?_
      refine z_sipush (nI 255) 36 zks_255 dX6_countForbiddenBy_33 rfl ?_
      refine z_icmp_eq 43 39 dX6_countForbiddenBy_36 (by decide) rfl (fun c7 => ?_) (fun c7 => ?_)
      · exact z_sub [] rfl (BX6_countForbiddenBy_43 b0 recX6_countForbiddenFrom dr hdr hrecX6_countForbiddenFrom hrkX6_countForbiddenFrom q2.2 )
      · refine z_iconst (nI 1) 40 zki_1 dX6_countForbiddenBy_39 rfl ?_
        refine z_goto 44 dX6_countForbiddenBy_40 (by decide) ?_
        exact z_sub [] rfl (BX6_countForbiddenBy_44 b0 recX6_countForbiddenFrom dr hdr hrecX6_countForbiddenFrom hrkX6_countForbiddenFrom (nI 1) q2.2 )
-- X6_countForbiddenFrom
def kX6_countForbiddenFrom_6 (recX6_countForbiddenFrom : Nat → Int32 → Int32 → Int32 → ZH → Option (Int32 × ZH)) (x0 : Nat) (x1 : Int32) (x2 : Int32) (x3 : Int32) (self6 : Int32 × Int32 × ZH → Option (Int32 × ZH)) (x4 : Int32) (x5 : Int32) (h : ZH) : Option (Int32 × ZH) :=
  if (nI 4) ≤ x5 then (some (x4, h)) else
  ((fX6_countForbiddenBy recX6_countForbiddenFrom x0 x1 x2 x3 x5 h).bind fun q2 =>
  zl (x4 + q2.1) fun v3 =>
  self6 (v3, (x5 + (nI 1)), q2.2))
def lX6_countForbiddenFrom_6 (recX6_countForbiddenFrom : Nat → Int32 → Int32 → Int32 → ZH → Option (Int32 × ZH)) (x0 : Nat) (x1 : Int32) (x2 : Int32) (x3 : Int32) : (Int32 × Int32 × ZH → Option (Int32 × ZH)) → Int32 × Int32 × ZH → Option (Int32 × ZH) := fun self s => kX6_countForbiddenFrom_6 recX6_countForbiddenFrom x0 x1 x2 x3 self s.1 s.2.1 s.2.2
theorem KX6_countForbiddenFrom_6 (b0 : Nat) (recX6_countForbiddenFrom : Nat → Int32 → Int32 → Int32 → ZH → Option (Int32 × ZH)) (dr : Nat) (hdr : 5 ≤ dr) (hrecX6_countForbiddenFrom : ∀ (y0 : Nat) (y1 : Int32) (y2 : Int32) (y3 : Int32) (h : ZH), ZM zi b0 YX6_countForbiddenFrom dr [.ref (b0 + y0), .int y1, .int y2, .int y3] h (recX6_countForbiddenFrom y0 y1 y2 y3 h)) (hrkX6_countForbiddenFrom : ∀ {y0 : Nat} {y1 y2 y3 : Int32} {h : ZH} {x : Int32 × ZH}, recX6_countForbiddenFrom y0 y1 y2 y3 h = some x → y0 < zn h ∧ zK h y0 = 6) (x0 : Nat) (x1 : Int32) (x2 : Int32) (x3 : Int32) (self6 : Int32 × Int32 × ZH → Option (Int32 × ZH)) (hself6 : ∀ (y4 : Int32) (y5 : Int32) (hh : ZH), Zr zi b0 YX6_countForbiddenFrom (dr + 2) 6 [(0, .ref (b0 + x0)), (1, .int x1), (2, .int x2), (3, .int x3), (4, .int y4), (5, .int y5)] [] hh (self6 (y4, y5, hh))) (x4 : Int32) (x5 : Int32) (h : ZH) : Zr zi b0 YX6_countForbiddenFrom (dr + 2) 6 [(0, .ref (b0 + x0)), (1, .int x1), (2, .int x2), (3, .int x3), (4, .int x4), (5, .int x5)] [] h (kX6_countForbiddenFrom_6 recX6_countForbiddenFrom x0 x1 x2 x3 self6 x4 x5 h) := by
  unfold kX6_countForbiddenFrom_6
  refine z_iload 8 5 dX6_countForbiddenFrom_6 rfl rfl ?_
  refine z_iconst (nI 4) 9 zki_4 dX6_countForbiddenFrom_8 rfl ?_
  refine z_icmp_ge 32 12 dX6_countForbiddenFrom_9 (by decide) rfl (fun c1 => ?_) (fun c1 => ?_)
  · refine z_iload 34 4 dX6_countForbiddenFrom_32 rfl rfl ?_
    exact z_ireturn dX6_countForbiddenFrom_34 rfl
  · refine z_iload 14 4 dX6_countForbiddenFrom_12 rfl rfl ?_
    refine z_aload_n 15 0 dX6_countForbiddenFrom_14 rfl rfl ?_
    refine z_iload_n 16 1 dX6_countForbiddenFrom_15 rfl rfl ?_
    refine z_iload_n 17 2 dX6_countForbiddenFrom_16 rfl rfl ?_
    refine z_iload_n 18 3 dX6_countForbiddenFrom_17 rfl rfl ?_
    refine z_iload 20 5 dX6_countForbiddenFrom_18 rfl rfl ?_
    refine z_callVi 23 (mX6_countForbiddenBy b0 recX6_countForbiddenFrom dr hdr hrecX6_countForbiddenFrom hrkX6_countForbiddenFrom x0 x1 x2 x3 x5 h) zyX6_countForbiddenBy rfl w_561 (ci := 6) rfl (Nat.le_of_ble_eq_true rfl) (fun _ e9 => kX6_countForbiddenBy e9) wm_yX6_countForbiddenBy ws_yX6_countForbiddenBy (by omega) rfl (Nat.le_of_ble_eq_true rfl) dX6_countForbiddenFrom_20 rfl (fun q2 => ?_)
    refine z_iadd 24 dX6_countForbiddenFrom_23 rfl ?_
    refine z_letI (fun v3 _ => ?_)
    refine z_istore (lv2 := [(4, .int v3), (0, .ref (b0 + x0)), (1, .int x1), (2, .int x2), (3, .int x3), (5, .int x5)]) 26 dX6_countForbiddenFrom_24 rfl (Nat.le_of_ble_eq_true rfl) rfl ?_
    refine z_iinc (lv2 := [(5, .int (x5 + (nI 1))), (4, .int v3), (0, .ref (b0 + x0)), (1, .int x1), (2, .int x2), (3, .int x3)]) (nI 1) 29 5 dX6_countForbiddenFrom_26 rfl rfl zki_1 (Nat.le_of_ble_eq_true rfl) rfl ?_
    refine z_goto 6 dX6_countForbiddenFrom_29 (by decide) ?_
    exact z_sub [2, 3, 4, 5, 1, 0] rfl (hself6 v3 (x5 + (nI 1)) q2.2)
theorem BX6_countForbiddenFrom_6 (b0 : Nat) (recX6_countForbiddenFrom : Nat → Int32 → Int32 → Int32 → ZH → Option (Int32 × ZH)) (dr : Nat) (hdr : 5 ≤ dr) (hrecX6_countForbiddenFrom : ∀ (y0 : Nat) (y1 : Int32) (y2 : Int32) (y3 : Int32) (h : ZH), ZM zi b0 YX6_countForbiddenFrom dr [.ref (b0 + y0), .int y1, .int y2, .int y3] h (recX6_countForbiddenFrom y0 y1 y2 y3 h)) (hrkX6_countForbiddenFrom : ∀ {y0 : Nat} {y1 y2 y3 : Int32} {h : ZH} {x : Int32 × ZH}, recX6_countForbiddenFrom y0 y1 y2 y3 h = some x → y0 < zn h ∧ zK h y0 = 6) (x0 : Nat) (x1 : Int32) (x2 : Int32) (x3 : Int32) (n : Nat) (x4 : Int32) (x5 : Int32) (h : ZH) : Zr zi b0 YX6_countForbiddenFrom (dr + 2) 6 [(0, .ref (b0 + x0)), (1, .int x1), (2, .int x2), (3, .int x3), (4, .int x4), (5, .int x5)] [] h (zloop (lX6_countForbiddenFrom_6 recX6_countForbiddenFrom x0 x1 x2 x3) n (x4, x5, h)) :=
  zloop_Zr (fun s => [(0, .ref (b0 + x0)), (1, .int x1), (2, .int x2), (3, .int x3), (4, .int s.1), (5, .int s.2.1)]) (fun _ => []) (fun s => s.2.2) (lX6_countForbiddenFrom_6 recX6_countForbiddenFrom x0 x1 x2 x3) (fun self hs s => KX6_countForbiddenFrom_6 b0 recX6_countForbiddenFrom dr hdr hrecX6_countForbiddenFrom hrkX6_countForbiddenFrom x0 x1 x2 x3 self (fun y4 y5 hh => hs (y4, y5, hh)) s.1 s.2.1 s.2.2) n (x4, x5, h)
def gX6_countForbiddenFrom (recX6_countForbiddenFrom : Nat → Int32 → Int32 → Int32 → ZH → Option (Int32 × ZH)) (x0 : Nat) (x1 : Int32) (x2 : Int32) (x3 : Int32) (h : ZH) : Option (Int32 × ZH) :=
  if x0 < zn h ∧ zK h x0 = 6 then (zloop (lX6_countForbiddenFrom_6 recX6_countForbiddenFrom x0 x1 x2 x3) zfu ((nI 0), (nI 0), h)) else none
theorem kgX6_countForbiddenFrom {recX6_countForbiddenFrom : Nat → Int32 → Int32 → Int32 → ZH → Option (Int32 × ZH)} {x0 : Nat} {x1 : Int32} {x2 : Int32} {x3 : Int32} {h : ZH} {x : Int32 × ZH} (e : gX6_countForbiddenFrom recX6_countForbiddenFrom x0 x1 x2 x3 h = some x) : x0 < zn h ∧ zK h x0 = 6 := by
  unfold gX6_countForbiddenFrom at e
  exact zguard e
theorem mgX6_countForbiddenFrom (b0 : Nat) (recX6_countForbiddenFrom : Nat → Int32 → Int32 → Int32 → ZH → Option (Int32 × ZH)) (dr : Nat) (hdr : 5 ≤ dr) (hrecX6_countForbiddenFrom : ∀ (y0 : Nat) (y1 : Int32) (y2 : Int32) (y3 : Int32) (h : ZH), ZM zi b0 YX6_countForbiddenFrom dr [.ref (b0 + y0), .int y1, .int y2, .int y3] h (recX6_countForbiddenFrom y0 y1 y2 y3 h)) (hrkX6_countForbiddenFrom : ∀ {y0 : Nat} {y1 y2 y3 : Int32} {h : ZH} {x : Int32 × ZH}, recX6_countForbiddenFrom y0 y1 y2 y3 h = some x → y0 < zn h ∧ zK h y0 = 6) (x0 : Nat) (x1 : Int32) (x2 : Int32) (x3 : Int32) (h : ZH) : ZM zi b0 YX6_countForbiddenFrom (dr + 2) [.ref (b0 + x0), .int x1, .int x2, .int x3] h (gX6_countForbiddenFrom recX6_countForbiddenFrom x0 x1 x2 x3 h) := by
  unfold gX6_countForbiddenFrom
  refine ZM.of (by decide) rfl (Nat.le_of_ble_eq_true rfl) (fun _ => trivial) ?_
  refine z_sub (lv2 := [(0, .ref (b0 + x0)), (1, .int x1), (2, .int x2), (3, .int x3)]) [0, 1, 2, 3] rfl ?_
  refine z_guard (fun _ => ?_)
  refine z_iconst (nI 0) 1 zki_0 dX6_countForbiddenFrom_0 rfl ?_
  refine z_istore (lv2 := [(4, .int (nI 0)), (0, .ref (b0 + x0)), (1, .int x1), (2, .int x2), (3, .int x3)]) 3 dX6_countForbiddenFrom_1 rfl (Nat.le_of_ble_eq_true rfl) rfl ?_
  refine z_iconst (nI 0) 4 zki_0 dX6_countForbiddenFrom_3 rfl ?_
  refine z_istore (lv2 := [(5, .int (nI 0)), (4, .int (nI 0)), (0, .ref (b0 + x0)), (1, .int x1), (2, .int x2), (3, .int x3)]) 6 dX6_countForbiddenFrom_4 rfl (Nat.le_of_ble_eq_true rfl) rfl ?_
  exact z_sub [2, 3, 4, 5, 1, 0] rfl (BX6_countForbiddenFrom_6 b0 recX6_countForbiddenFrom dr hdr hrecX6_countForbiddenFrom hrkX6_countForbiddenFrom x0 x1 x2 x3 zfu (nI 0) (nI 0) h)
def fX6_countForbiddenFrom : Nat → Nat → Int32 → Int32 → Int32 → ZH → Option (Int32 × ZH)
  | 0, _, _, _, _, _ => none
  | nn + 1, x0, x1, x2, x3, h => gX6_countForbiddenFrom (fX6_countForbiddenFrom nn) x0 x1 x2 x3 h
theorem kX6_countForbiddenFrom {nn : Nat} {x0 : Nat} {x1 : Int32} {x2 : Int32} {x3 : Int32} {h : ZH} {x : Int32 × ZH} (e : fX6_countForbiddenFrom nn x0 x1 x2 x3 h = some x) : x0 < zn h ∧ zK h x0 = 6 := by
  cases nn with
  | zero => cases e
  | succ n => exact kgX6_countForbiddenFrom (recX6_countForbiddenFrom := fX6_countForbiddenFrom n) e
theorem mX6_countForbiddenFrom (b0 : Nat) (nn : Nat) (x0 : Nat) (x1 : Int32) (x2 : Int32) (x3 : Int32) (h : ZH) : ZM zi b0 YX6_countForbiddenFrom (5 + 2 * nn) [.ref (b0 + x0), .int x1, .int x2, .int x3] h (fX6_countForbiddenFrom nn x0 x1 x2 x3 h) := by
  induction nn generalizing x0 x1 x2 x3 h with
  | zero => intro x hx; cases hx
  | succ nn ih => exact mgX6_countForbiddenFrom b0 (fX6_countForbiddenFrom nn) (5 + 2 * nn) (by omega) ih (fun e => kX6_countForbiddenFrom e) x0 x1 x2 x3 h
-- X6_countForbidden
def bX6_countForbidden_24 (t0 : Int32) (h : ZH) : Option (Int32 × ZH) :=
  some (t0, h)
theorem BX6_countForbidden_24 (b0 : Nat) (t0 : Int32) (h : ZH) : Zr zi b0 YX6_countForbidden 22 24 [] [.int t0] h (bX6_countForbidden_24 t0 h) := by
  unfold bX6_countForbidden_24
  exact z_ireturn dX6_countForbidden_24 rfl
def fX6_countForbidden (x0 : Nat) (x1 : Int32) (h : ZH) : Option (Int32 × ZH) :=
  if x0 < zn h ∧ zK h x0 = 6 then ((fX10_isWithin x1 (nI 1) (nI 6) h).bind fun q1 =>
  if q1.1 = 0 then (bX6_countForbidden_24 (nI 0) q1.2) else
  ((fX6_start x0 q1.2).bind fun q3 =>
  (fX6_countForbiddenFrom 8 x0 x1 q3.1 (-1 : Int32) q3.2).bind fun q4 =>
  bX6_countForbidden_24 q4.1 q4.2)) else none
theorem kX6_countForbidden {x0 : Nat} {x1 : Int32} {h : ZH} {x : Int32 × ZH} (e : fX6_countForbidden x0 x1 h = some x) : x0 < zn h ∧ zK h x0 = 6 := by
  unfold fX6_countForbidden at e
  exact zguard e
theorem mX6_countForbidden (b0 : Nat) (x0 : Nat) (x1 : Int32) (h : ZH) : ZM zi b0 YX6_countForbidden 22 [.ref (b0 + x0), .int x1] h (fX6_countForbidden x0 x1 h) := by
  unfold fX6_countForbidden
  refine ZM.of (by decide) rfl (Nat.le_of_ble_eq_true rfl) (fun _ => trivial) ?_
  refine z_sub (lv2 := [(0, .ref (b0 + x0)), (1, .int x1)]) [0, 1] rfl ?_
  refine z_guard (fun _ => ?_)
  refine z_iload_n 1 1 dX6_countForbidden_0 rfl rfl ?_
  refine z_iconst (nI 1) 2 zki_1 dX6_countForbidden_1 rfl ?_
  refine z_bipush (nI 6) 4 zkb_6 dX6_countForbidden_2 rfl ?_
  refine z_callSNi 7 (mX10_isWithin b0 x1 (nI 1) (nI 6) h) zyX10_isWithin rfl (List.mem_of_getElem? (i := 15) rfl) wt_yX10_isWithin (Nat.le_of_ble_eq_true rfl) rfl (Nat.le_of_ble_eq_true rfl) dX6_countForbidden_4 rfl (fun q1 => ?_)
  refine z_if_eq 23 10 dX6_countForbidden_7 (by decide) rfl (fun c2 => ?_) (fun c2 => ?_)
  · refine z_iconst (nI 0) 24 zki_0 dX6_countForbidden_23 rfl ?_
    exact z_sub [] rfl (BX6_countForbidden_24 b0 (nI 0) q1.2 )
  · refine z_aload_n 11 0 dX6_countForbidden_10 rfl rfl ?_
    refine z_iload_n 12 1 dX6_countForbidden_11 rfl rfl ?_
    refine z_aload_n 13 0 dX6_countForbidden_12 rfl rfl ?_
    refine z_callVi 16 (mX6_start b0 x0 q1.2) zyX6_start rfl w_556 (ci := 6) rfl (Nat.le_of_ble_eq_true rfl) (fun _ e9 => kX6_start e9) wm_yX6_start ws_yX6_start (Nat.le_of_ble_eq_true rfl) rfl (Nat.le_of_ble_eq_true rfl) dX6_countForbidden_13 rfl (fun q3 => ?_)
    refine z_iconst (-1 : Int32) 17 zki_m1 dX6_countForbidden_16 rfl ?_
    refine z_callVi 20 (mX6_countForbiddenFrom b0 8 x0 x1 q3.1 (-1 : Int32) q3.2) zyX6_countForbiddenFrom rfl w_557 (ci := 6) rfl (Nat.le_of_ble_eq_true rfl) (fun _ e9 => kX6_countForbiddenFrom e9) wm_yX6_countForbiddenFrom ws_yX6_countForbiddenFrom (by omega) rfl (Nat.le_of_ble_eq_true rfl) dX6_countForbidden_17 rfl (fun q4 => ?_)
    refine z_goto 24 dX6_countForbidden_20 (by decide) ?_
    exact z_sub [] rfl (BX6_countForbidden_24 b0 q4.1 q4.2 )
-- X6_spellForbidden
def bX6_spellForbidden_96 (self19 : Int32 × Int32 × Int32 × Int32 × ZH → Option (ZH)) (x0 : Nat) (x3 : Nat) (x4 : Int32) (x5 : Int32) (x6 : Int32) (x7 : Int32) (h : ZH) : Option (ZH) :=
  self19 (x4, x5, x6, (x7 + (-1 : Int32)), h)
theorem BX6_spellForbidden_96 (b0 : Nat) (self19 : Int32 × Int32 × Int32 × Int32 × ZH → Option (ZH)) (x0 : Nat) (x3 : Nat) (x4 : Int32) (x5 : Int32) (x6 : Int32) (x7 : Int32) (h : ZH) (hself19 : ∀ (y4 : Int32) (y5 : Int32) (y6 : Int32) (y7 : Int32) (hh : ZH), Zr zv b0 YX6_spellForbidden 23 19 [(0, .ref (b0 + x0)), (3, .ref (b0 + x3)), (4, .int y4), (5, .int y5), (6, .int y6), (7, .int y7)] [] hh (self19 (y4, y5, y6, y7, hh))) : Zr zv b0 YX6_spellForbidden 23 96 [(0, .ref (b0 + x0)), (3, .ref (b0 + x3)), (4, .int x4), (5, .int x5), (6, .int x6), (7, .int x7)] [] h (bX6_spellForbidden_96 self19 x0 x3 x4 x5 x6 x7 h) := by
  unfold bX6_spellForbidden_96
  refine z_iinc (lv2 := [(7, .int (x7 + (-1 : Int32))), (0, .ref (b0 + x0)), (3, .ref (b0 + x3)), (4, .int x4), (5, .int x5), (6, .int x6)]) (-1 : Int32) 99 5 dX6_spellForbidden_96 rfl rfl zki_m1 (Nat.le_of_ble_eq_true rfl) rfl ?_
  refine z_goto 19 dX6_spellForbidden_99 (by decide) ?_
  exact z_sub [1, 2, 3, 4, 5, 0] rfl (hself19 x4 x5 x6 (x7 + (-1 : Int32)) h)
def kX6_spellForbidden_27 (self19 : Int32 × Int32 × Int32 × Int32 × ZH → Option (ZH)) (x0 : Nat) (x3 : Nat) (x5 : Int32) (x6 : Int32) (x7 : Int32) (self27 : Int32 × Int32 × ZH → Option (ZH)) (x4 : Int32) (x8 : Int32) (h : ZH) : Option (ZH) :=
  if (nI 4) ≤ x8 then (bX6_spellForbidden_96 self19 x0 x3 x4 x5 x6 x7 h) else
  ((fX6_countForbiddenBy (fX6_countForbiddenFrom 8) x0 x7 x5 x6 x8 h).bind fun q2 =>
  if q2.1 ≤ x4 then (zl (x4 - q2.1) fun v4 =>
  self27 (v4, (x8 + (nI 1)), q2.2)) else
  ((fX7_addLetter x3 x8 q2.2).bind fun h5 =>
  (fX6_after x0 x5 x8 h5).bind fun q6 =>
  (fX6_tailAfter x0 x6 x8 q6.2).bind fun q7 =>
  bX6_spellForbidden_96 self19 x0 x3 x4 q6.1 q7.1 x7 q7.2))
def lX6_spellForbidden_27 (self19 : Int32 × Int32 × Int32 × Int32 × ZH → Option (ZH)) (x0 : Nat) (x3 : Nat) (x5 : Int32) (x6 : Int32) (x7 : Int32) : (Int32 × Int32 × ZH → Option (ZH)) → Int32 × Int32 × ZH → Option (ZH) := fun self s => kX6_spellForbidden_27 self19 x0 x3 x5 x6 x7 self s.1 s.2.1 s.2.2
theorem KX6_spellForbidden_27 (b0 : Nat) (self19 : Int32 × Int32 × Int32 × Int32 × ZH → Option (ZH)) (x0 : Nat) (x3 : Nat) (x5 : Int32) (x6 : Int32) (x7 : Int32) (hself19 : ∀ (y4 : Int32) (y5 : Int32) (y6 : Int32) (y7 : Int32) (hh : ZH), Zr zv b0 YX6_spellForbidden 23 19 [(0, .ref (b0 + x0)), (3, .ref (b0 + x3)), (4, .int y4), (5, .int y5), (6, .int y6), (7, .int y7)] [] hh (self19 (y4, y5, y6, y7, hh))) (self27 : Int32 × Int32 × ZH → Option (ZH)) (hself27 : ∀ (y4 : Int32) (y8 : Int32) (hh : ZH), Zr zv b0 YX6_spellForbidden 23 27 [(0, .ref (b0 + x0)), (3, .ref (b0 + x3)), (5, .int x5), (6, .int x6), (7, .int x7), (4, .int y4), (8, .int y8)] [] hh (self27 (y4, y8, hh))) (x4 : Int32) (x8 : Int32) (h : ZH) : Zr zv b0 YX6_spellForbidden 23 27 [(0, .ref (b0 + x0)), (3, .ref (b0 + x3)), (5, .int x5), (6, .int x6), (7, .int x7), (4, .int x4), (8, .int x8)] [] h (kX6_spellForbidden_27 self19 x0 x3 x5 x6 x7 self27 x4 x8 h) := by
  unfold kX6_spellForbidden_27
  refine z_iload 29 6 dX6_spellForbidden_27 rfl rfl ?_
  refine z_iconst (nI 4) 30 zki_4 dX6_spellForbidden_29 rfl ?_
  refine z_icmp_ge 96 33 dX6_spellForbidden_30 (by decide) rfl (fun c1 => ?_) (fun c1 => ?_)
  · exact z_sub [0, 1, 5, 2, 3, 4] rfl (BX6_spellForbidden_96 b0 self19 x0 x3 x4 x5 x6 x7 h hself19)
  · refine z_aload_n 34 0 dX6_spellForbidden_33 rfl rfl ?_
    refine z_iload 36 4 dX6_spellForbidden_34 rfl rfl ?_
    refine z_iload 38 2 dX6_spellForbidden_36 rfl rfl ?_
    refine z_iload 40 3 dX6_spellForbidden_38 rfl rfl ?_
    refine z_iload 42 6 dX6_spellForbidden_40 rfl rfl ?_
    refine z_callVi 45 (mX6_countForbiddenBy b0 (fX6_countForbiddenFrom 8) (5 + 2 * 8) (by omega) (mX6_countForbiddenFrom b0 8) (fun e9 => kX6_countForbiddenFrom e9) x0 x7 x5 x6 x8 h) zyX6_countForbiddenBy rfl w_561 (ci := 6) rfl (Nat.le_of_ble_eq_true rfl) (fun _ e9 => kX6_countForbiddenBy e9) wm_yX6_countForbiddenBy ws_yX6_countForbiddenBy (by omega) rfl (Nat.le_of_ble_eq_true rfl) dX6_spellForbidden_42 rfl (fun q2 => ?_)
    refine z_istore (lv2 := [(9, .int q2.1), (0, .ref (b0 + x0)), (3, .ref (b0 + x3)), (5, .int x5), (6, .int x6), (7, .int x7), (4, .int x4), (8, .int x8)]) 47 dX6_spellForbidden_45 rfl (Nat.le_of_ble_eq_true rfl) rfl ?_
    refine z_iload 49 6 dX6_spellForbidden_47 rfl rfl ?_
    refine z_iload 51 0 dX6_spellForbidden_49 rfl rfl ?_
    refine z_icmp_ge 83 54 dX6_spellForbidden_51 (by decide) rfl (fun c3 => ?_) (fun c3 => ?_)
    · refine z_iload 85 6 dX6_spellForbidden_83 rfl rfl ?_
      refine z_iload 87 0 dX6_spellForbidden_85 rfl rfl ?_
      refine z_isub 88 dX6_spellForbidden_87 rfl ?_
      refine z_letI (fun v4 _ => ?_)
      refine z_istore (lv2 := [(4, .int v4), (9, .int q2.1), (0, .ref (b0 + x0)), (3, .ref (b0 + x3)), (5, .int x5), (6, .int x6), (7, .int x7), (8, .int x8)]) 90 dX6_spellForbidden_88 rfl (Nat.le_of_ble_eq_true rfl) rfl ?_
      refine z_iinc (lv2 := [(8, .int (x8 + (nI 1))), (4, .int v4), (9, .int q2.1), (0, .ref (b0 + x0)), (3, .ref (b0 + x3)), (5, .int x5), (6, .int x6), (7, .int x7)]) (nI 1) 93 7 dX6_spellForbidden_90 rfl rfl zki_1 (Nat.le_of_ble_eq_true rfl) rfl ?_
      refine z_goto 27 dX6_spellForbidden_93 (by decide) ?_
      exact z_sub [3, 4, 5, 6, 7, 1, 0] rfl (hself27 v4 (x8 + (nI 1)) q2.2)
    · refine z_aload_n 55 2 dX6_spellForbidden_54 rfl rfl ?_
      refine z_iload 57 7 dX6_spellForbidden_55 rfl rfl ?_
      refine z_callVv 60 (mX7_addLetter b0 x3 x8 q2.2) zyX7_addLetter rfl w_579 (ci := 7) rfl (Nat.le_of_ble_eq_true rfl) (fun _ e9 => kX7_addLetter e9) wm_yX7_addLetter ws_yX7_addLetter (Nat.le_of_ble_eq_true rfl) rfl (Nat.le_of_ble_eq_true rfl) dX6_spellForbidden_57 rfl (fun h5 => ?_)
      refine z_aload_n 61 1 dX6_spellForbidden_60 rfl rfl ?_
      refine z_iload 63 3 dX6_spellForbidden_61 rfl rfl ?_
      refine z_iload 65 7 dX6_spellForbidden_63 rfl rfl ?_
      refine z_callVi 68 (mX6_after b0 x0 x5 x8 h5) zyX6_after rfl w_565 (ci := 6) rfl (Nat.le_of_ble_eq_true rfl) (fun _ e9 => kX6_after e9) wm_yX6_after ws_yX6_after (Nat.le_of_ble_eq_true rfl) rfl (Nat.le_of_ble_eq_true rfl) dX6_spellForbidden_65 rfl (fun q6 => ?_)
      refine z_istore (lv2 := [(5, .int q6.1), (9, .int q2.1), (0, .ref (b0 + x0)), (3, .ref (b0 + x3)), (6, .int x6), (7, .int x7), (4, .int x4), (8, .int x8)]) 70 dX6_spellForbidden_68 rfl (Nat.le_of_ble_eq_true rfl) rfl ?_
      refine z_aload_n 71 2 dX6_spellForbidden_70 rfl rfl ?_
      refine z_iload 73 4 dX6_spellForbidden_71 rfl rfl ?_
      refine z_iload 75 7 dX6_spellForbidden_73 rfl rfl ?_
      refine z_callVi 78 (mX6_tailAfter b0 x0 x6 x8 q6.2) zyX6_tailAfter rfl w_566 (ci := 6) rfl (Nat.le_of_ble_eq_true rfl) (fun _ e9 => kX6_tailAfter e9) wm_yX6_tailAfter ws_yX6_tailAfter (Nat.le_of_ble_eq_true rfl) rfl (Nat.le_of_ble_eq_true rfl) dX6_spellForbidden_75 rfl (fun q7 => ?_)
      refine z_istore (lv2 := [(6, .int q7.1), (5, .int q6.1), (9, .int q2.1), (0, .ref (b0 + x0)), (3, .ref (b0 + x3)), (7, .int x7), (4, .int x4), (8, .int x8)]) 80 dX6_spellForbidden_78 rfl (Nat.le_of_ble_eq_true rfl) rfl ?_
      refine z_goto 96 dX6_spellForbidden_80 (by decide) ?_
      exact z_sub [3, 4, 6, 1, 0, 5] rfl (BX6_spellForbidden_96 b0 self19 x0 x3 x4 q6.1 q7.1 x7 q7.2 hself19)
theorem BX6_spellForbidden_27 (b0 : Nat) (self19 : Int32 × Int32 × Int32 × Int32 × ZH → Option (ZH)) (x0 : Nat) (x3 : Nat) (x5 : Int32) (x6 : Int32) (x7 : Int32) (hself19 : ∀ (y4 : Int32) (y5 : Int32) (y6 : Int32) (y7 : Int32) (hh : ZH), Zr zv b0 YX6_spellForbidden 23 19 [(0, .ref (b0 + x0)), (3, .ref (b0 + x3)), (4, .int y4), (5, .int y5), (6, .int y6), (7, .int y7)] [] hh (self19 (y4, y5, y6, y7, hh))) (n : Nat) (x4 : Int32) (x8 : Int32) (h : ZH) : Zr zv b0 YX6_spellForbidden 23 27 [(0, .ref (b0 + x0)), (3, .ref (b0 + x3)), (5, .int x5), (6, .int x6), (7, .int x7), (4, .int x4), (8, .int x8)] [] h (zloop (lX6_spellForbidden_27 self19 x0 x3 x5 x6 x7) n (x4, x8, h)) :=
  zloop_Zr (fun s => [(0, .ref (b0 + x0)), (3, .ref (b0 + x3)), (5, .int x5), (6, .int x6), (7, .int x7), (4, .int s.1), (8, .int s.2.1)]) (fun _ => []) (fun s => s.2.2) (lX6_spellForbidden_27 self19 x0 x3 x5 x6 x7) (fun self hs s => KX6_spellForbidden_27 b0 self19 x0 x3 x5 x6 x7 hself19 self (fun y4 y8 hh => hs (y4, y8, hh)) s.1 s.2.1 s.2.2) n (x4, x8, h)
def kX6_spellForbidden_19 (x0 : Nat) (x3 : Nat) (self19 : Int32 × Int32 × Int32 × Int32 × ZH → Option (ZH)) (x4 : Int32) (x5 : Int32) (x6 : Int32) (x7 : Int32) (h : ZH) : Option (ZH) :=
  if x7 ≤ 0 then (some h) else
  (zloop (lX6_spellForbidden_27 self19 x0 x3 x5 x6 x7) zfu (x4, (nI 0), h))
def lX6_spellForbidden_19 (x0 : Nat) (x3 : Nat) : (Int32 × Int32 × Int32 × Int32 × ZH → Option (ZH)) → Int32 × Int32 × Int32 × Int32 × ZH → Option (ZH) := fun self s => kX6_spellForbidden_19 x0 x3 self s.1 s.2.1 s.2.2.1 s.2.2.2.1 s.2.2.2.2
theorem KX6_spellForbidden_19 (b0 : Nat) (x0 : Nat) (x3 : Nat) (self19 : Int32 × Int32 × Int32 × Int32 × ZH → Option (ZH)) (hself19 : ∀ (y4 : Int32) (y5 : Int32) (y6 : Int32) (y7 : Int32) (hh : ZH), Zr zv b0 YX6_spellForbidden 23 19 [(0, .ref (b0 + x0)), (3, .ref (b0 + x3)), (4, .int y4), (5, .int y5), (6, .int y6), (7, .int y7)] [] hh (self19 (y4, y5, y6, y7, hh))) (x4 : Int32) (x5 : Int32) (x6 : Int32) (x7 : Int32) (h : ZH) : Zr zv b0 YX6_spellForbidden 23 19 [(0, .ref (b0 + x0)), (3, .ref (b0 + x3)), (4, .int x4), (5, .int x5), (6, .int x6), (7, .int x7)] [] h (kX6_spellForbidden_19 x0 x3 self19 x4 x5 x6 x7 h) := by
  unfold kX6_spellForbidden_19
  refine z_iload 21 5 dX6_spellForbidden_19 rfl rfl ?_
  refine z_if_le 102 24 dX6_spellForbidden_21 (by decide) rfl (fun c1 => ?_) (fun c1 => ?_)
  · exact z_return dX6_spellForbidden_102 rfl
  · refine z_iconst (nI 0) 25 zki_0 dX6_spellForbidden_24 rfl ?_
    refine z_istore (lv2 := [(8, .int (nI 0)), (0, .ref (b0 + x0)), (3, .ref (b0 + x3)), (4, .int x4), (5, .int x5), (6, .int x6), (7, .int x7)]) 27 dX6_spellForbidden_25 rfl (Nat.le_of_ble_eq_true rfl) rfl ?_
    exact z_sub [1, 2, 4, 5, 6, 3, 0] rfl (BX6_spellForbidden_27 b0 self19 x0 x3 x5 x6 x7 hself19 zfu x4 (nI 0) h)
theorem BX6_spellForbidden_19 (b0 : Nat) (x0 : Nat) (x3 : Nat) (n : Nat) (x4 : Int32) (x5 : Int32) (x6 : Int32) (x7 : Int32) (h : ZH) : Zr zv b0 YX6_spellForbidden 23 19 [(0, .ref (b0 + x0)), (3, .ref (b0 + x3)), (4, .int x4), (5, .int x5), (6, .int x6), (7, .int x7)] [] h (zloop (lX6_spellForbidden_19 x0 x3) n (x4, x5, x6, x7, h)) :=
  zloop_Zr (fun s => [(0, .ref (b0 + x0)), (3, .ref (b0 + x3)), (4, .int s.1), (5, .int s.2.1), (6, .int s.2.2.1), (7, .int s.2.2.2.1)]) (fun _ => []) (fun s => s.2.2.2.2) (lX6_spellForbidden_19 x0 x3) (fun self hs s => KX6_spellForbidden_19 b0 x0 x3 self (fun y4 y5 y6 y7 hh => hs (y4, y5, y6, y7, hh)) s.1 s.2.1 s.2.2.1 s.2.2.2.1 s.2.2.2.2) n (x4, x5, x6, x7, h)
def fX6_spellForbidden (x0 : Nat) (x1 : Int32) (x2 : Int32) (x3 : Nat) (h : ZH) : Option (ZH) :=
  if x0 < zn h ∧ zK h x0 = 6 then ((fX7_clear x3 h).bind fun h1 =>
  (fX6_start x0 h1).bind fun q2 =>
  zloop (lX6_spellForbidden_19 x0 x3) zfu (x2, q2.1, (-1 : Int32), x1, q2.2)) else none
theorem kX6_spellForbidden {x0 : Nat} {x1 : Int32} {x2 : Int32} {x3 : Nat} {h : ZH} {x : ZH} (e : fX6_spellForbidden x0 x1 x2 x3 h = some x) : x0 < zn h ∧ zK h x0 = 6 := by
  unfold fX6_spellForbidden at e
  exact zguard e
theorem mX6_spellForbidden (b0 : Nat) (x0 : Nat) (x1 : Int32) (x2 : Int32) (x3 : Nat) (h : ZH) : ZM zv b0 YX6_spellForbidden 23 [.ref (b0 + x0), .int x1, .int x2, .ref (b0 + x3)] h (fX6_spellForbidden x0 x1 x2 x3 h) := by
  unfold fX6_spellForbidden
  refine ZM.of (by decide) rfl (Nat.le_of_ble_eq_true rfl) (fun _ => trivial) ?_
  refine z_sub (lv2 := [(0, .ref (b0 + x0)), (1, .int x1), (2, .int x2), (3, .ref (b0 + x3))]) [0, 1, 2, 3] rfl ?_
  refine z_guard (fun _ => ?_)
  refine z_aload_n 1 3 dX6_spellForbidden_0 rfl rfl ?_
  refine z_callVv 4 (mX7_clear b0 x3 h) zyX7_clear rfl w_578 (ci := 7) rfl (Nat.le_of_ble_eq_true rfl) (fun _ e9 => kX7_clear e9) wm_yX7_clear ws_yX7_clear (Nat.le_of_ble_eq_true rfl) rfl (Nat.le_of_ble_eq_true rfl) dX6_spellForbidden_1 rfl (fun h1 => ?_)
  refine z_iload_n 5 2 dX6_spellForbidden_4 rfl rfl ?_
  refine z_istore (lv2 := [(4, .int x2), (0, .ref (b0 + x0)), (1, .int x1), (2, .int x2), (3, .ref (b0 + x3))]) 7 dX6_spellForbidden_5 rfl (Nat.le_of_ble_eq_true rfl) rfl ?_
  refine z_aload_n 8 1 dX6_spellForbidden_7 rfl rfl ?_
  refine z_callVi 11 (mX6_start b0 x0 h1) zyX6_start rfl w_556 (ci := 6) rfl (Nat.le_of_ble_eq_true rfl) (fun _ e9 => kX6_start e9) wm_yX6_start ws_yX6_start (Nat.le_of_ble_eq_true rfl) rfl (Nat.le_of_ble_eq_true rfl) dX6_spellForbidden_8 rfl (fun q2 => ?_)
  refine z_istore (lv2 := [(5, .int q2.1), (4, .int x2), (0, .ref (b0 + x0)), (1, .int x1), (2, .int x2), (3, .ref (b0 + x3))]) 13 dX6_spellForbidden_11 rfl (Nat.le_of_ble_eq_true rfl) rfl ?_
  refine z_iconst (-1 : Int32) 14 zki_m1 dX6_spellForbidden_13 rfl ?_
  refine z_istore (lv2 := [(6, .int (-1 : Int32)), (5, .int q2.1), (4, .int x2), (0, .ref (b0 + x0)), (1, .int x1), (2, .int x2), (3, .ref (b0 + x3))]) 16 dX6_spellForbidden_14 rfl (Nat.le_of_ble_eq_true rfl) rfl ?_
  refine z_iload_n 17 4 dX6_spellForbidden_16 rfl rfl ?_
  refine z_istore (lv2 := [(7, .int x1), (6, .int (-1 : Int32)), (5, .int q2.1), (4, .int x2), (0, .ref (b0 + x0)), (1, .int x1), (2, .int x2), (3, .ref (b0 + x3))]) 19 dX6_spellForbidden_17 rfl (Nat.le_of_ble_eq_true rfl) rfl ?_
  exact z_sub [4, 7, 3, 2, 1, 0] rfl (BX6_spellForbidden_19 b0 x0 x3 zfu x2 q2.1 (-1 : Int32) x1 q2.2)
-- X6_repeatsForever
def bX6_repeatsForever_83 (t0 : Int32) (h : ZH) : Option (Int32 × ZH) :=
  if t0 = 0 ∨ t0 = 1 then some (t0, h) else none
theorem BX6_repeatsForever_83 (b0 : Nat) (t0 : Int32) (h : ZH) : Zr zi b0 YX6_repeatsForever 2 83 [] [.int t0] h (bX6_repeatsForever_83 t0 h) := by
  unfold bX6_repeatsForever_83
  exact z_zreturn dX6_repeatsForever_83 rfl
def bX6_repeatsForever_70 (x4 : Int32) (h : ZH) : Option (Int32 × ZH) :=
  if x4 = (nI 255) then (bX6_repeatsForever_83 (nI 0) h) else
  (bX6_repeatsForever_83 (nI 1) h)
theorem BX6_repeatsForever_70 (b0 : Nat) (x4 : Int32) (h : ZH) : Zr zi b0 YX6_repeatsForever 2 70 [(4, .int x4)] [] h (bX6_repeatsForever_70 x4 h) := by
  unfold bX6_repeatsForever_70
  refine z_iload 72 0 dX6_repeatsForever_70 rfl rfl ?_
  refine z_sipush (nI 255) 75 zks_255 dX6_repeatsForever_72 rfl ?_
  refine z_icmp_eq 82 78 dX6_repeatsForever_75 (by decide) rfl (fun c1 => ?_) (fun c1 => ?_)
  · refine z_iconst (nI 0) 83 zki_0 dX6_repeatsForever_82 rfl ?_
    exact z_sub [] rfl (BX6_repeatsForever_83 b0 (nI 0) h )
  · refine z_iconst (nI 1) 79 zki_1 dX6_repeatsForever_78 rfl ?_
    refine z_goto 83 dX6_repeatsForever_79 (by decide) ?_
    exact z_sub [] rfl (BX6_repeatsForever_83 b0 (nI 1) h )
def bX6_repeatsForever_64 (self11 : Int32 × Int32 × Int32 × ZH → Option (Int32 × ZH)) (x0 : Nat) (x1 : Int32) (x3 : Int32) (x4 : Int32) (x5 : Int32) (h : ZH) : Option (Int32 × ZH) :=
  self11 (x3, x4, (x5 + (nI 1)), h)
theorem BX6_repeatsForever_64 (b0 : Nat) (self11 : Int32 × Int32 × Int32 × ZH → Option (Int32 × ZH)) (x0 : Nat) (x1 : Int32) (x3 : Int32) (x4 : Int32) (x5 : Int32) (h : ZH) (hself11 : ∀ (y3 : Int32) (y4 : Int32) (y5 : Int32) (hh : ZH), Zr zi b0 YX6_repeatsForever 2 11 [(0, .ref (b0 + x0)), (1, .int x1), (3, .int y3), (4, .int y4), (5, .int y5)] [] hh (self11 (y3, y4, y5, hh))) : Zr zi b0 YX6_repeatsForever 2 64 [(0, .ref (b0 + x0)), (1, .int x1), (3, .int x3), (4, .int x4), (5, .int x5)] [] h (bX6_repeatsForever_64 self11 x0 x1 x3 x4 x5 h) := by
  unfold bX6_repeatsForever_64
  refine z_iinc (lv2 := [(5, .int (x5 + (nI 1))), (0, .ref (b0 + x0)), (1, .int x1), (3, .int x3), (4, .int x4)]) (nI 1) 67 4 dX6_repeatsForever_64 rfl rfl zki_1 (Nat.le_of_ble_eq_true rfl) rfl ?_
  refine z_goto 11 dX6_repeatsForever_67 (by decide) ?_
  exact z_sub [1, 2, 3, 4, 0] rfl (hself11 x3 x4 (x5 + (nI 1)) h)
def kX6_repeatsForever_30 (self11 : Int32 × Int32 × Int32 × ZH → Option (Int32 × ZH)) (x0 : Nat) (x1 : Int32) (x3 : Int32) (x5 : Int32) (self30 : Int32 × Int32 × ZH → Option (Int32 × ZH)) (x4 : Int32) (x6 : Int32) (h : ZH) : Option (Int32 × ZH) :=
  if x1 < x6 then (bX6_repeatsForever_64 self11 x0 x1 x3 x4 x5 h) else
  (if (nI 7) < x6 then (bX6_repeatsForever_64 self11 x0 x1 x3 x4 x5 h) else
  ((gR h 6 x0 4).bind fun v3 =>
  (lI h 14 v3 x6).bind fun v4 =>
  (fX6_after x0 x4 v4 h).bind fun q5 =>
  self30 (q5.1, (x6 + (nI 1)), q5.2)))
def lX6_repeatsForever_30 (self11 : Int32 × Int32 × Int32 × ZH → Option (Int32 × ZH)) (x0 : Nat) (x1 : Int32) (x3 : Int32) (x5 : Int32) : (Int32 × Int32 × ZH → Option (Int32 × ZH)) → Int32 × Int32 × ZH → Option (Int32 × ZH) := fun self s => kX6_repeatsForever_30 self11 x0 x1 x3 x5 self s.1 s.2.1 s.2.2
theorem KX6_repeatsForever_30 (b0 : Nat) (self11 : Int32 × Int32 × Int32 × ZH → Option (Int32 × ZH)) (x0 : Nat) (x1 : Int32) (x3 : Int32) (x5 : Int32) (hself11 : ∀ (y3 : Int32) (y4 : Int32) (y5 : Int32) (hh : ZH), Zr zi b0 YX6_repeatsForever 2 11 [(0, .ref (b0 + x0)), (1, .int x1), (3, .int y3), (4, .int y4), (5, .int y5)] [] hh (self11 (y3, y4, y5, hh))) (self30 : Int32 × Int32 × ZH → Option (Int32 × ZH)) (hself30 : ∀ (y4 : Int32) (y6 : Int32) (hh : ZH), Zr zi b0 YX6_repeatsForever 2 30 [(0, .ref (b0 + x0)), (1, .int x1), (3, .int x3), (5, .int x5), (4, .int y4), (6, .int y6)] [] hh (self30 (y4, y6, hh))) (x4 : Int32) (x6 : Int32) (h : ZH) : Zr zi b0 YX6_repeatsForever 2 30 [(0, .ref (b0 + x0)), (1, .int x1), (3, .int x3), (5, .int x5), (4, .int x4), (6, .int x6)] [] h (kX6_repeatsForever_30 self11 x0 x1 x3 x5 self30 x4 x6 h) := by
  unfold kX6_repeatsForever_30
  refine z_iload 32 5 dX6_repeatsForever_30 rfl rfl ?_
  refine z_iload_n 33 1 dX6_repeatsForever_32 rfl rfl ?_
  refine z_icmp_gt 64 36 dX6_repeatsForever_33 (by decide) rfl (fun c1 => ?_) (fun c1 => ?_)
  · exact z_sub [0, 1, 2, 4, 3] rfl (BX6_repeatsForever_64 b0 self11 x0 x1 x3 x4 x5 h hself11)
  · refine z_iload 38 5 dX6_repeatsForever_36 rfl rfl ?_
    refine z_bipush (nI 7) 40 zkb_7 dX6_repeatsForever_38 rfl ?_
    refine z_icmp_gt 64 43 dX6_repeatsForever_40 (by decide) rfl (fun c2 => ?_) (fun c2 => ?_)
    · exact z_sub [0, 1, 2, 4, 3] rfl (BX6_repeatsForever_64 b0 self11 x0 x1 x3 x4 x5 h hself11)
    · refine z_aload_n 44 0 dX6_repeatsForever_43 rfl rfl ?_
      refine z_iload 46 4 dX6_repeatsForever_44 rfl rfl ?_
      refine z_aload_n 47 0 dX6_repeatsForever_46 rfl rfl ?_
      refine z_getR 50 zC6 (Nat.le_of_ble_eq_true rfl) rfl w_85 dX6_repeatsForever_47 rfl (fun v3 _ => ?_)
      refine z_iload 52 5 dX6_repeatsForever_50 rfl rfl ?_
      refine z_iaload 53 dX6_repeatsForever_52 rfl (fun v4 _ => ?_)
      refine z_callVi 56 (mX6_after b0 x0 x4 v4 h) zyX6_after rfl w_565 (ci := 6) rfl (Nat.le_of_ble_eq_true rfl) (fun _ e9 => kX6_after e9) wm_yX6_after ws_yX6_after (Nat.le_of_ble_eq_true rfl) rfl (Nat.le_of_ble_eq_true rfl) dX6_repeatsForever_53 rfl (fun q5 => ?_)
      refine z_istore (lv2 := [(4, .int q5.1), (0, .ref (b0 + x0)), (1, .int x1), (3, .int x3), (5, .int x5), (6, .int x6)]) 58 dX6_repeatsForever_56 rfl (Nat.le_of_ble_eq_true rfl) rfl ?_
      refine z_iinc (lv2 := [(6, .int (x6 + (nI 1))), (4, .int q5.1), (0, .ref (b0 + x0)), (1, .int x1), (3, .int x3), (5, .int x5)]) (nI 1) 61 5 dX6_repeatsForever_58 rfl rfl zki_1 (Nat.le_of_ble_eq_true rfl) rfl ?_
      refine z_goto 30 dX6_repeatsForever_61 (by decide) ?_
      exact z_sub [2, 3, 4, 5, 1, 0] rfl (hself30 q5.1 (x6 + (nI 1)) q5.2)
theorem BX6_repeatsForever_30 (b0 : Nat) (self11 : Int32 × Int32 × Int32 × ZH → Option (Int32 × ZH)) (x0 : Nat) (x1 : Int32) (x3 : Int32) (x5 : Int32) (hself11 : ∀ (y3 : Int32) (y4 : Int32) (y5 : Int32) (hh : ZH), Zr zi b0 YX6_repeatsForever 2 11 [(0, .ref (b0 + x0)), (1, .int x1), (3, .int y3), (4, .int y4), (5, .int y5)] [] hh (self11 (y3, y4, y5, hh))) (n : Nat) (x4 : Int32) (x6 : Int32) (h : ZH) : Zr zi b0 YX6_repeatsForever 2 30 [(0, .ref (b0 + x0)), (1, .int x1), (3, .int x3), (5, .int x5), (4, .int x4), (6, .int x6)] [] h (zloop (lX6_repeatsForever_30 self11 x0 x1 x3 x5) n (x4, x6, h)) :=
  zloop_Zr (fun s => [(0, .ref (b0 + x0)), (1, .int x1), (3, .int x3), (5, .int x5), (4, .int s.1), (6, .int s.2.1)]) (fun _ => []) (fun s => s.2.2) (lX6_repeatsForever_30 self11 x0 x1 x3 x5) (fun self hs s => KX6_repeatsForever_30 b0 self11 x0 x1 x3 x5 hself11 self (fun y4 y6 hh => hs (y4, y6, hh)) s.1 s.2.1 s.2.2) n (x4, x6, h)
def kX6_repeatsForever_11 (x0 : Nat) (x1 : Int32) (self11 : Int32 × Int32 × Int32 × ZH → Option (Int32 × ZH)) (x3 : Int32) (x4 : Int32) (x5 : Int32) (h : ZH) : Option (Int32 × ZH) :=
  if (nI 8) < x5 then (bX6_repeatsForever_70 x4 h) else
  (if x4 = x3 then (bX6_repeatsForever_70 x4 h) else
  (zloop (lX6_repeatsForever_30 self11 x0 x1 x4 x5) zfu (x4, (nI 1), h)))
def lX6_repeatsForever_11 (x0 : Nat) (x1 : Int32) : (Int32 × Int32 × Int32 × ZH → Option (Int32 × ZH)) → Int32 × Int32 × Int32 × ZH → Option (Int32 × ZH) := fun self s => kX6_repeatsForever_11 x0 x1 self s.1 s.2.1 s.2.2.1 s.2.2.2
theorem KX6_repeatsForever_11 (b0 : Nat) (x0 : Nat) (x1 : Int32) (self11 : Int32 × Int32 × Int32 × ZH → Option (Int32 × ZH)) (hself11 : ∀ (y3 : Int32) (y4 : Int32) (y5 : Int32) (hh : ZH), Zr zi b0 YX6_repeatsForever 2 11 [(0, .ref (b0 + x0)), (1, .int x1), (3, .int y3), (4, .int y4), (5, .int y5)] [] hh (self11 (y3, y4, y5, hh))) (x3 : Int32) (x4 : Int32) (x5 : Int32) (h : ZH) : Zr zi b0 YX6_repeatsForever 2 11 [(0, .ref (b0 + x0)), (1, .int x1), (3, .int x3), (4, .int x4), (5, .int x5)] [] h (kX6_repeatsForever_11 x0 x1 self11 x3 x4 x5 h) := by
  unfold kX6_repeatsForever_11
  refine z_iload 13 4 dX6_repeatsForever_11 rfl rfl ?_
  refine z_bipush (nI 8) 15 zkb_8 dX6_repeatsForever_13 rfl ?_
  refine z_icmp_gt 70 18 dX6_repeatsForever_15 (by decide) rfl (fun c1 => ?_) (fun c1 => ?_)
  · exact z_sub [3] rfl (BX6_repeatsForever_70 b0 x4 h )
  · refine z_iload 20 3 dX6_repeatsForever_18 rfl rfl ?_
    refine z_iload_n 21 2 dX6_repeatsForever_20 rfl rfl ?_
    refine z_icmp_eq 70 24 dX6_repeatsForever_21 (by decide) rfl (fun c2 => ?_) (fun c2 => ?_)
    · exact z_sub [3] rfl (BX6_repeatsForever_70 b0 x4 h )
    · refine z_iload 26 3 dX6_repeatsForever_24 rfl rfl ?_
      refine z_istore_n (lv2 := [(3, .int x4), (0, .ref (b0 + x0)), (1, .int x1), (4, .int x4), (5, .int x5)]) 27 dX6_repeatsForever_26 rfl (Nat.le_of_ble_eq_true rfl) rfl ?_
      refine z_iconst (nI 1) 28 zki_1 dX6_repeatsForever_27 rfl ?_
      refine z_istore (lv2 := [(6, .int (nI 1)), (3, .int x4), (0, .ref (b0 + x0)), (1, .int x1), (4, .int x4), (5, .int x5)]) 30 dX6_repeatsForever_28 rfl (Nat.le_of_ble_eq_true rfl) rfl ?_
      exact z_sub [2, 3, 1, 5, 4, 0] rfl (BX6_repeatsForever_30 b0 self11 x0 x1 x4 x5 hself11 zfu x4 (nI 1) h)
theorem BX6_repeatsForever_11 (b0 : Nat) (x0 : Nat) (x1 : Int32) (n : Nat) (x3 : Int32) (x4 : Int32) (x5 : Int32) (h : ZH) : Zr zi b0 YX6_repeatsForever 2 11 [(0, .ref (b0 + x0)), (1, .int x1), (3, .int x3), (4, .int x4), (5, .int x5)] [] h (zloop (lX6_repeatsForever_11 x0 x1) n (x3, x4, x5, h)) :=
  zloop_Zr (fun s => [(0, .ref (b0 + x0)), (1, .int x1), (3, .int s.1), (4, .int s.2.1), (5, .int s.2.2.1)]) (fun _ => []) (fun s => s.2.2.2) (lX6_repeatsForever_11 x0 x1) (fun self hs s => KX6_repeatsForever_11 b0 x0 x1 self (fun y3 y4 y5 hh => hs (y3, y4, y5, hh)) s.1 s.2.1 s.2.2.1 s.2.2.2) n (x3, x4, x5, h)
def fX6_repeatsForever (x0 : Nat) (x1 : Int32) (x2 : Int32) (h : ZH) : Option (Int32 × ZH) :=
  if x0 < zn h ∧ zK h x0 = 6 then ((fX6_start x0 h).bind fun q1 =>
  zloop (lX6_repeatsForever_11 x0 x1) zfu (q1.1, x2, (nI 0), q1.2)) else none
theorem kX6_repeatsForever {x0 : Nat} {x1 : Int32} {x2 : Int32} {h : ZH} {x : Int32 × ZH} (e : fX6_repeatsForever x0 x1 x2 h = some x) : x0 < zn h ∧ zK h x0 = 6 := by
  unfold fX6_repeatsForever at e
  exact zguard e
theorem mX6_repeatsForever (b0 : Nat) (x0 : Nat) (x1 : Int32) (x2 : Int32) (h : ZH) : ZM zi b0 YX6_repeatsForever 2 [.ref (b0 + x0), .int x1, .int x2] h (fX6_repeatsForever x0 x1 x2 h) := by
  unfold fX6_repeatsForever
  refine ZM.of (by decide) rfl (Nat.le_of_ble_eq_true rfl) (fun _ => trivial) ?_
  refine z_sub (lv2 := [(0, .ref (b0 + x0)), (1, .int x1), (2, .int x2)]) [0, 1, 2] rfl ?_
  refine z_guard (fun _ => ?_)
  refine z_aload_n 1 0 dX6_repeatsForever_0 rfl rfl ?_
  refine z_callVi 4 (mX6_start b0 x0 h) zyX6_start rfl w_556 (ci := 6) rfl (Nat.le_of_ble_eq_true rfl) (fun _ e9 => kX6_start e9) wm_yX6_start ws_yX6_start (Nat.le_of_ble_eq_true rfl) rfl (Nat.le_of_ble_eq_true rfl) dX6_repeatsForever_1 rfl (fun q1 => ?_)
  refine z_istore_n (lv2 := [(3, .int q1.1), (0, .ref (b0 + x0)), (1, .int x1), (2, .int x2)]) 5 dX6_repeatsForever_4 rfl (Nat.le_of_ble_eq_true rfl) rfl ?_
  refine z_iload_n 6 3 dX6_repeatsForever_5 rfl rfl ?_
  refine z_istore (lv2 := [(4, .int x2), (3, .int q1.1), (0, .ref (b0 + x0)), (1, .int x1), (2, .int x2)]) 8 dX6_repeatsForever_6 rfl (Nat.le_of_ble_eq_true rfl) rfl ?_
  refine z_iconst (nI 0) 9 zki_0 dX6_repeatsForever_8 rfl ?_
  refine z_istore (lv2 := [(5, .int (nI 0)), (4, .int x2), (3, .int q1.1), (0, .ref (b0 + x0)), (1, .int x1), (2, .int x2)]) 11 dX6_repeatsForever_9 rfl (Nat.le_of_ble_eq_true rfl) rfl ?_
  exact z_sub [3, 4, 2, 1, 0] rfl (BX6_repeatsForever_11 b0 x0 x1 zfu q1.1 x2 (nI 0) q1.2)
-- X6_countNecklaces
def bX6_countNecklaces_104 (recX6_countNecklaces : Nat → Int32 → Int32 → Int32 → Int32 → ZH → Option (Int32 × ZH)) (self78 : Int32 × Int32 × ZH → Option (Int32 × ZH)) (x0 : Nat) (x1 : Int32) (x2 : Int32) (x3 : Int32) (x4 : Int32) (x5 : Int32) (x6 : Int32) (x7 : Int32) (t0 : Int32) (h : ZH) : Option (Int32 × ZH) :=
  (fX6_after x0 x4 x7 h).bind fun q1 =>
  (recX6_countNecklaces x0 (x1 + (nI 1)) t0 x3 q1.1 q1.2).bind fun q2 =>
  zl (x5 + q2.1) fun v3 =>
  self78 (v3, (x7 + (nI 1)), q2.2)
theorem BX6_countNecklaces_104 (b0 : Nat) (recX6_countNecklaces : Nat → Int32 → Int32 → Int32 → Int32 → ZH → Option (Int32 × ZH)) (dr : Nat) (hdr : 5 ≤ dr) (hrecX6_countNecklaces : ∀ (y0 : Nat) (y1 : Int32) (y2 : Int32) (y3 : Int32) (y4 : Int32) (h : ZH), ZM zi b0 YX6_countNecklaces dr [.ref (b0 + y0), .int y1, .int y2, .int y3, .int y4] h (recX6_countNecklaces y0 y1 y2 y3 y4 h)) (hrkX6_countNecklaces : ∀ {y0 : Nat} {y1 y2 y3 y4 : Int32} {h : ZH} {x : Int32 × ZH}, recX6_countNecklaces y0 y1 y2 y3 y4 h = some x → y0 < zn h ∧ zK h y0 = 6) (self78 : Int32 × Int32 × ZH → Option (Int32 × ZH)) (x0 : Nat) (x1 : Int32) (x2 : Int32) (x3 : Int32) (x4 : Int32) (x5 : Int32) (x6 : Int32) (x7 : Int32) (t0 : Int32) (h : ZH) (hself78 : ∀ (y5 : Int32) (y7 : Int32) (hh : ZH), Zr zi b0 YX6_countNecklaces (dr + 1) 78 [(0, .ref (b0 + x0)), (1, .int x1), (2, .int x2), (3, .int x3), (4, .int x4), (6, .int x6), (5, .int y5), (7, .int y7)] [] hh (self78 (y5, y7, hh))) : Zr zi b0 YX6_countNecklaces (dr + 1) 104 [(0, .ref (b0 + x0)), (1, .int x1), (2, .int x2), (3, .int x3), (4, .int x4), (5, .int x5), (6, .int x6), (7, .int x7)] [.int t0] h (bX6_countNecklaces_104 recX6_countNecklaces self78 x0 x1 x2 x3 x4 x5 x6 x7 t0 h) := by
  unfold bX6_countNecklaces_104
  refine z_istore (lv2 := [(8, .int t0), (0, .ref (b0 + x0)), (1, .int x1), (2, .int x2), (3, .int x3), (4, .int x4), (5, .int x5), (6, .int x6), (7, .int x7)]) 106 dX6_countNecklaces_104 rfl (Nat.le_of_ble_eq_true rfl) rfl ?_
  refine z_iload 108 6 dX6_countNecklaces_106 rfl rfl ?_
  refine z_aload_n 109 1 dX6_countNecklaces_108 rfl rfl ?_
  refine z_iload_n 110 2 dX6_countNecklaces_109 rfl rfl ?_
  refine z_iconst (nI 1) 111 zki_1 dX6_countNecklaces_110 rfl ?_
  refine z_iadd 112 dX6_countNecklaces_111 rfl ?_
  refine z_iload 114 0 dX6_countNecklaces_112 rfl rfl ?_
  refine z_iload_n 115 4 dX6_countNecklaces_114 rfl rfl ?_
  refine z_aload_n 116 1 dX6_countNecklaces_115 rfl rfl ?_
  refine z_iload 118 5 dX6_countNecklaces_116 rfl rfl ?_
  refine z_iload 120 8 dX6_countNecklaces_118 rfl rfl ?_
  refine z_callVi 123 (mX6_after b0 x0 x4 x7 h) zyX6_after rfl w_565 (ci := 6) rfl (Nat.le_of_ble_eq_true rfl) (fun _ e9 => kX6_after e9) wm_yX6_after ws_yX6_after (by omega) rfl (Nat.le_of_ble_eq_true rfl) dX6_countNecklaces_120 rfl (fun q1 => ?_)
  refine z_callVi 126 (hrecX6_countNecklaces x0 (x1 + (nI 1)) t0 x3 q1.1 q1.2) zyX6_countNecklaces rfl w_588 (ci := 6) rfl (Nat.le_of_ble_eq_true rfl) (fun _ e9 => hrkX6_countNecklaces e9) wm_yX6_countNecklaces ws_yX6_countNecklaces (by omega) rfl (Nat.le_of_ble_eq_true rfl) dX6_countNecklaces_123 rfl (fun q2 => ?_)
  refine z_iadd 127 dX6_countNecklaces_126 rfl ?_
  refine z_letI (fun v3 _ => ?_)
  refine z_istore (lv2 := [(5, .int v3), (8, .int t0), (0, .ref (b0 + x0)), (1, .int x1), (2, .int x2), (3, .int x3), (4, .int x4), (6, .int x6), (7, .int x7)]) 129 dX6_countNecklaces_127 rfl (Nat.le_of_ble_eq_true rfl) rfl ?_
  refine z_iinc (lv2 := [(7, .int (x7 + (nI 1))), (5, .int v3), (8, .int t0), (0, .ref (b0 + x0)), (1, .int x1), (2, .int x2), (3, .int x3), (4, .int x4), (6, .int x6)]) (nI 1) 132 8 dX6_countNecklaces_129 rfl rfl zki_1 (Nat.le_of_ble_eq_true rfl) rfl ?_
  refine z_goto 78 dX6_countNecklaces_132 (by decide) ?_
  exact z_sub [3, 4, 5, 6, 7, 8, 1, 0] rfl (hself78 v3 (x7 + (nI 1)) q2.2)
def kX6_countNecklaces_78 (recX6_countNecklaces : Nat → Int32 → Int32 → Int32 → Int32 → ZH → Option (Int32 × ZH)) (x0 : Nat) (x1 : Int32) (x2 : Int32) (x3 : Int32) (x4 : Int32) (x6 : Int32) (self78 : Int32 × Int32 × ZH → Option (Int32 × ZH)) (x5 : Int32) (x7 : Int32) (h : ZH) : Option (Int32 × ZH) :=
  if (nI 4) ≤ x7 then (some (x5, h)) else
  ((gR h 6 x0 4).bind fun v2 =>
  (sI h 14 v2 x1 x7).bind fun h3 =>
  if x7 = x6 then (bX6_countNecklaces_104 recX6_countNecklaces self78 x0 x1 x2 x3 x4 x5 x6 x7 x2 h3) else
  (bX6_countNecklaces_104 recX6_countNecklaces self78 x0 x1 x2 x3 x4 x5 x6 x7 x1 h3))
def lX6_countNecklaces_78 (recX6_countNecklaces : Nat → Int32 → Int32 → Int32 → Int32 → ZH → Option (Int32 × ZH)) (x0 : Nat) (x1 : Int32) (x2 : Int32) (x3 : Int32) (x4 : Int32) (x6 : Int32) : (Int32 × Int32 × ZH → Option (Int32 × ZH)) → Int32 × Int32 × ZH → Option (Int32 × ZH) := fun self s => kX6_countNecklaces_78 recX6_countNecklaces x0 x1 x2 x3 x4 x6 self s.1 s.2.1 s.2.2
theorem KX6_countNecklaces_78 (b0 : Nat) (recX6_countNecklaces : Nat → Int32 → Int32 → Int32 → Int32 → ZH → Option (Int32 × ZH)) (dr : Nat) (hdr : 5 ≤ dr) (hrecX6_countNecklaces : ∀ (y0 : Nat) (y1 : Int32) (y2 : Int32) (y3 : Int32) (y4 : Int32) (h : ZH), ZM zi b0 YX6_countNecklaces dr [.ref (b0 + y0), .int y1, .int y2, .int y3, .int y4] h (recX6_countNecklaces y0 y1 y2 y3 y4 h)) (hrkX6_countNecklaces : ∀ {y0 : Nat} {y1 y2 y3 y4 : Int32} {h : ZH} {x : Int32 × ZH}, recX6_countNecklaces y0 y1 y2 y3 y4 h = some x → y0 < zn h ∧ zK h y0 = 6) (x0 : Nat) (x1 : Int32) (x2 : Int32) (x3 : Int32) (x4 : Int32) (x6 : Int32) (self78 : Int32 × Int32 × ZH → Option (Int32 × ZH)) (hself78 : ∀ (y5 : Int32) (y7 : Int32) (hh : ZH), Zr zi b0 YX6_countNecklaces (dr + 1) 78 [(0, .ref (b0 + x0)), (1, .int x1), (2, .int x2), (3, .int x3), (4, .int x4), (6, .int x6), (5, .int y5), (7, .int y7)] [] hh (self78 (y5, y7, hh))) (x5 : Int32) (x7 : Int32) (h : ZH) : Zr zi b0 YX6_countNecklaces (dr + 1) 78 [(0, .ref (b0 + x0)), (1, .int x1), (2, .int x2), (3, .int x3), (4, .int x4), (6, .int x6), (5, .int x5), (7, .int x7)] [] h (kX6_countNecklaces_78 recX6_countNecklaces x0 x1 x2 x3 x4 x6 self78 x5 x7 h) := by
  unfold kX6_countNecklaces_78
  refine z_iload 80 7 dX6_countNecklaces_78 rfl rfl ?_
  refine z_iconst (nI 4) 81 zki_4 dX6_countNecklaces_80 rfl ?_
  refine z_icmp_ge 135 84 dX6_countNecklaces_81 (by decide) rfl (fun c1 => ?_) (fun c1 => ?_)
  · refine z_iload 137 6 dX6_countNecklaces_135 rfl rfl ?_
    exact z_ireturn dX6_countNecklaces_137 rfl
  · refine z_aload_n 85 0 dX6_countNecklaces_84 rfl rfl ?_
    refine z_getR 88 zC6 (Nat.le_of_ble_eq_true rfl) rfl w_85 dX6_countNecklaces_85 rfl (fun v2 _ => ?_)
    refine z_iload_n 89 1 dX6_countNecklaces_88 rfl rfl ?_
    refine z_iload 91 7 dX6_countNecklaces_89 rfl rfl ?_
    refine z_iastore 92 dX6_countNecklaces_91 rfl (fun h3 _ => ?_)
    refine z_iload 94 7 dX6_countNecklaces_92 rfl rfl ?_
    refine z_iload 96 5 dX6_countNecklaces_94 rfl rfl ?_
    refine z_icmp_ne 103 99 dX6_countNecklaces_96 (by decide) rfl (fun c4 => ?_) (fun c4 => ?_)
    · refine z_iload_n 104 1 dX6_countNecklaces_103 rfl rfl ?_
      exact z_sub [0, 1, 2, 3, 4, 6, 5, 7] rfl (BX6_countNecklaces_104 b0 recX6_countNecklaces dr hdr hrecX6_countNecklaces hrkX6_countNecklaces self78 x0 x1 x2 x3 x4 x5 x6 x7 x1 h3 hself78)
    · refine z_iload_n 100 2 dX6_countNecklaces_99 rfl rfl ?_
      refine z_goto 104 dX6_countNecklaces_100 (by decide) ?_
      exact z_sub [0, 1, 2, 3, 4, 6, 5, 7] rfl (BX6_countNecklaces_104 b0 recX6_countNecklaces dr hdr hrecX6_countNecklaces hrkX6_countNecklaces self78 x0 x1 x2 x3 x4 x5 x6 x7 x2 h3 hself78)
theorem BX6_countNecklaces_78 (b0 : Nat) (recX6_countNecklaces : Nat → Int32 → Int32 → Int32 → Int32 → ZH → Option (Int32 × ZH)) (dr : Nat) (hdr : 5 ≤ dr) (hrecX6_countNecklaces : ∀ (y0 : Nat) (y1 : Int32) (y2 : Int32) (y3 : Int32) (y4 : Int32) (h : ZH), ZM zi b0 YX6_countNecklaces dr [.ref (b0 + y0), .int y1, .int y2, .int y3, .int y4] h (recX6_countNecklaces y0 y1 y2 y3 y4 h)) (hrkX6_countNecklaces : ∀ {y0 : Nat} {y1 y2 y3 y4 : Int32} {h : ZH} {x : Int32 × ZH}, recX6_countNecklaces y0 y1 y2 y3 y4 h = some x → y0 < zn h ∧ zK h y0 = 6) (x0 : Nat) (x1 : Int32) (x2 : Int32) (x3 : Int32) (x4 : Int32) (x6 : Int32) (n : Nat) (x5 : Int32) (x7 : Int32) (h : ZH) : Zr zi b0 YX6_countNecklaces (dr + 1) 78 [(0, .ref (b0 + x0)), (1, .int x1), (2, .int x2), (3, .int x3), (4, .int x4), (6, .int x6), (5, .int x5), (7, .int x7)] [] h (zloop (lX6_countNecklaces_78 recX6_countNecklaces x0 x1 x2 x3 x4 x6) n (x5, x7, h)) :=
  zloop_Zr (fun s => [(0, .ref (b0 + x0)), (1, .int x1), (2, .int x2), (3, .int x3), (4, .int x4), (6, .int x6), (5, .int s.1), (7, .int s.2.1)]) (fun _ => []) (fun s => s.2.2) (lX6_countNecklaces_78 recX6_countNecklaces x0 x1 x2 x3 x4 x6) (fun self hs s => KX6_countNecklaces_78 b0 recX6_countNecklaces dr hdr hrecX6_countNecklaces hrkX6_countNecklaces x0 x1 x2 x3 x4 x6 self (fun y5 y7 hh => hs (y5, y7, hh)) s.1 s.2.1 s.2.2) n (x5, x7, h)
def bX6_countNecklaces_72 (recX6_countNecklaces : Nat → Int32 → Int32 → Int32 → Int32 → ZH → Option (Int32 × ZH)) (x0 : Nat) (x1 : Int32) (x2 : Int32) (x3 : Int32) (x4 : Int32) (x5 : Int32) (t0 : Int32) (h : ZH) : Option (Int32 × ZH) :=
  zloop (lX6_countNecklaces_78 recX6_countNecklaces x0 x1 x2 x3 x4 t0) zfu (x5, t0, h)
theorem BX6_countNecklaces_72 (b0 : Nat) (recX6_countNecklaces : Nat → Int32 → Int32 → Int32 → Int32 → ZH → Option (Int32 × ZH)) (dr : Nat) (hdr : 5 ≤ dr) (hrecX6_countNecklaces : ∀ (y0 : Nat) (y1 : Int32) (y2 : Int32) (y3 : Int32) (y4 : Int32) (h : ZH), ZM zi b0 YX6_countNecklaces dr [.ref (b0 + y0), .int y1, .int y2, .int y3, .int y4] h (recX6_countNecklaces y0 y1 y2 y3 y4 h)) (hrkX6_countNecklaces : ∀ {y0 : Nat} {y1 y2 y3 y4 : Int32} {h : ZH} {x : Int32 × ZH}, recX6_countNecklaces y0 y1 y2 y3 y4 h = some x → y0 < zn h ∧ zK h y0 = 6) (x0 : Nat) (x1 : Int32) (x2 : Int32) (x3 : Int32) (x4 : Int32) (x5 : Int32) (t0 : Int32) (h : ZH) : Zr zi b0 YX6_countNecklaces (dr + 1) 72 [(0, .ref (b0 + x0)), (1, .int x1), (2, .int x2), (3, .int x3), (4, .int x4), (5, .int x5)] [.int t0] h (bX6_countNecklaces_72 recX6_countNecklaces x0 x1 x2 x3 x4 x5 t0 h) := by
  unfold bX6_countNecklaces_72
  refine z_istore (lv2 := [(6, .int t0), (0, .ref (b0 + x0)), (1, .int x1), (2, .int x2), (3, .int x3), (4, .int x4), (5, .int x5)]) 74 dX6_countNecklaces_72 rfl (Nat.le_of_ble_eq_true rfl) rfl ?_
  refine z_iload 76 0 dX6_countNecklaces_74 rfl rfl ?_
  refine z_istore (lv2 := [(7, .int t0), (6, .int t0), (0, .ref (b0 + x0)), (1, .int x1), (2, .int x2), (3, .int x3), (4, .int x4), (5, .int x5)]) 78 dX6_countNecklaces_76 rfl (Nat.le_of_ble_eq_true rfl) rfl ?_
  exact z_sub [2, 3, 4, 5, 6, 1, 7, 0] rfl (BX6_countNecklaces_78 b0 recX6_countNecklaces dr hdr hrecX6_countNecklaces hrkX6_countNecklaces x0 x1 x2 x3 x4 t0 zfu x5 t0 h)
def bX6_countNecklaces_71 (recX6_countNecklaces : Nat → Int32 → Int32 → Int32 → Int32 → ZH → Option (Int32 × ZH)) (x0 : Nat) (x1 : Int32) (x2 : Int32) (x3 : Int32) (x4 : Int32) (x5 : Int32) (h : ZH) : Option (Int32 × ZH) :=
  bX6_countNecklaces_72 recX6_countNecklaces x0 x1 x2 x3 x4 x5 (nI 0) h
theorem BX6_countNecklaces_71 (b0 : Nat) (recX6_countNecklaces : Nat → Int32 → Int32 → Int32 → Int32 → ZH → Option (Int32 × ZH)) (dr : Nat) (hdr : 5 ≤ dr) (hrecX6_countNecklaces : ∀ (y0 : Nat) (y1 : Int32) (y2 : Int32) (y3 : Int32) (y4 : Int32) (h : ZH), ZM zi b0 YX6_countNecklaces dr [.ref (b0 + y0), .int y1, .int y2, .int y3, .int y4] h (recX6_countNecklaces y0 y1 y2 y3 y4 h)) (hrkX6_countNecklaces : ∀ {y0 : Nat} {y1 y2 y3 y4 : Int32} {h : ZH} {x : Int32 × ZH}, recX6_countNecklaces y0 y1 y2 y3 y4 h = some x → y0 < zn h ∧ zK h y0 = 6) (x0 : Nat) (x1 : Int32) (x2 : Int32) (x3 : Int32) (x4 : Int32) (x5 : Int32) (h : ZH) : Zr zi b0 YX6_countNecklaces (dr + 1) 71 [(0, .ref (b0 + x0)), (1, .int x1), (2, .int x2), (3, .int x3), (4, .int x4), (5, .int x5)] [] h (bX6_countNecklaces_71 recX6_countNecklaces x0 x1 x2 x3 x4 x5 h) := by
  unfold bX6_countNecklaces_71
  refine z_iconst (nI 0) 72 zki_0 dX6_countNecklaces_71 rfl ?_
  exact z_sub [0, 1, 2, 3, 4, 5] rfl (BX6_countNecklaces_72 b0 recX6_countNecklaces dr hdr hrecX6_countNecklaces hrkX6_countNecklaces x0 x1 x2 x3 x4 x5 (nI 0) h )
def bX6_countNecklaces_46 (recX6_countNecklaces : Nat → Int32 → Int32 → Int32 → Int32 → ZH → Option (Int32 × ZH)) (t0 : Int32) (h : ZH) : Option (Int32 × ZH) :=
  some (t0, h)
theorem BX6_countNecklaces_46 (b0 : Nat) (recX6_countNecklaces : Nat → Int32 → Int32 → Int32 → Int32 → ZH → Option (Int32 × ZH)) (dr : Nat) (hdr : 5 ≤ dr) (hrecX6_countNecklaces : ∀ (y0 : Nat) (y1 : Int32) (y2 : Int32) (y3 : Int32) (y4 : Int32) (h : ZH), ZM zi b0 YX6_countNecklaces dr [.ref (b0 + y0), .int y1, .int y2, .int y3, .int y4] h (recX6_countNecklaces y0 y1 y2 y3 y4 h)) (hrkX6_countNecklaces : ∀ {y0 : Nat} {y1 y2 y3 y4 : Int32} {h : ZH} {x : Int32 × ZH}, recX6_countNecklaces y0 y1 y2 y3 y4 h = some x → y0 < zn h ∧ zK h y0 = 6) (t0 : Int32) (h : ZH) : Zr zi b0 YX6_countNecklaces (dr + 1) 46 [] [.int t0] h (bX6_countNecklaces_46 recX6_countNecklaces t0 h) := by
  unfold bX6_countNecklaces_46
  exact z_ireturn dX6_countNecklaces_46 rfl
def bX6_countNecklaces_45 (recX6_countNecklaces : Nat → Int32 → Int32 → Int32 → Int32 → ZH → Option (Int32 × ZH)) (h : ZH) : Option (Int32 × ZH) :=
  bX6_countNecklaces_46 recX6_countNecklaces (nI 0) h
theorem BX6_countNecklaces_45 (b0 : Nat) (recX6_countNecklaces : Nat → Int32 → Int32 → Int32 → Int32 → ZH → Option (Int32 × ZH)) (dr : Nat) (hdr : 5 ≤ dr) (hrecX6_countNecklaces : ∀ (y0 : Nat) (y1 : Int32) (y2 : Int32) (y3 : Int32) (y4 : Int32) (h : ZH), ZM zi b0 YX6_countNecklaces dr [.ref (b0 + y0), .int y1, .int y2, .int y3, .int y4] h (recX6_countNecklaces y0 y1 y2 y3 y4 h)) (hrkX6_countNecklaces : ∀ {y0 : Nat} {y1 y2 y3 y4 : Int32} {h : ZH} {x : Int32 × ZH}, recX6_countNecklaces y0 y1 y2 y3 y4 h = some x → y0 < zn h ∧ zK h y0 = 6) (h : ZH) : Zr zi b0 YX6_countNecklaces (dr + 1) 45 [] [] h (bX6_countNecklaces_45 recX6_countNecklaces h) := by
  unfold bX6_countNecklaces_45
  refine z_iconst (nI 0) 46 zki_0 dX6_countNecklaces_45 rfl ?_
  exact z_sub [] rfl (BX6_countNecklaces_46 b0 recX6_countNecklaces dr hdr hrecX6_countNecklaces hrkX6_countNecklaces (nI 0) h )
def bX6_countNecklaces_26 (recX6_countNecklaces : Nat → Int32 → Int32 → Int32 → Int32 → ZH → Option (Int32 × ZH)) (x0 : Nat) (x2 : Int32) (x3 : Int32) (x4 : Int32) (h : ZH) : Option (Int32 × ZH) :=
  if x2 = x3 then ((fX6_repeatsForever x0 x3 x4 h).bind fun q2 =>
  if q2.1 = 0 then (bX6_countNecklaces_45 recX6_countNecklaces q2.2) else
  (bX6_countNecklaces_46 recX6_countNecklaces (nI 1) q2.2)) else
  (bX6_countNecklaces_45 recX6_countNecklaces h)
theorem BX6_countNecklaces_26 (b0 : Nat) (recX6_countNecklaces : Nat → Int32 → Int32 → Int32 → Int32 → ZH → Option (Int32 × ZH)) (dr : Nat) (hdr : 5 ≤ dr) (hrecX6_countNecklaces : ∀ (y0 : Nat) (y1 : Int32) (y2 : Int32) (y3 : Int32) (y4 : Int32) (h : ZH), ZM zi b0 YX6_countNecklaces dr [.ref (b0 + y0), .int y1, .int y2, .int y3, .int y4] h (recX6_countNecklaces y0 y1 y2 y3 y4 h)) (hrkX6_countNecklaces : ∀ {y0 : Nat} {y1 y2 y3 y4 : Int32} {h : ZH} {x : Int32 × ZH}, recX6_countNecklaces y0 y1 y2 y3 y4 h = some x → y0 < zn h ∧ zK h y0 = 6) (x0 : Nat) (x2 : Int32) (x3 : Int32) (x4 : Int32) (h : ZH) : Zr zi b0 YX6_countNecklaces (dr + 1) 26 [(0, .ref (b0 + x0)), (2, .int x2), (3, .int x3), (4, .int x4)] [] h (bX6_countNecklaces_26 recX6_countNecklaces x0 x2 x3 x4 h) := by
  unfold bX6_countNecklaces_26
  refine z_iload_n 27 1 dX6_countNecklaces_26 rfl rfl ?_
  refine z_iload_n 28 2 dX6_countNecklaces_27 rfl rfl ?_
  refine z_icmp_ne 45 31 dX6_countNecklaces_28 (by decide) rfl (fun c1 => ?_) (fun c1 => ?_)
  · exact z_sub [] rfl (BX6_countNecklaces_45 b0 recX6_countNecklaces dr hdr hrecX6_countNecklaces hrkX6_countNecklaces h )
  · refine z_aload_n 32 0 dX6_countNecklaces_31 rfl rfl ?_
    refine z_iload_n 33 2 dX6_countNecklaces_32 rfl rfl ?_
    refine z_iload 35 3 dX6_countNecklaces_33 rfl rfl ?_
    refine z_callVi 38 (mX6_repeatsForever b0 x0 x3 x4 h) zyX6_repeatsForever rfl w_592 (ci := 6) rfl (Nat.le_of_ble_eq_true rfl) (fun _ e9 => kX6_repeatsForever e9) wm_yX6_repeatsForever ws_yX6_repeatsForever (by omega) rfl (Nat.le_of_ble_eq_true rfl) dX6_countNecklaces_35 rfl (fun q2 => ?_)
    refine z_if_eq 45 41 dX6_countNecklaces_38 (by decide) rfl (fun c3 => ?_) (fun c3 => ?_)
    · exact z_sub [] rfl (BX6_countNecklaces_45 b0 recX6_countNecklaces dr hdr hrecX6_countNecklaces hrkX6_countNecklaces q2.2 )
    · refine z_iconst (nI 1) 42 zki_1 dX6_countNecklaces_41 rfl ?_
      refine z_goto 46 dX6_countNecklaces_42 (by decide) ?_
      exact z_sub [] rfl (BX6_countNecklaces_46 b0 recX6_countNecklaces dr hdr hrecX6_countNecklaces hrkX6_countNecklaces (nI 1) q2.2 )
def gX6_countNecklaces (recX6_countNecklaces : Nat → Int32 → Int32 → Int32 → Int32 → ZH → Option (Int32 × ZH)) (x0 : Nat) (x1 : Int32) (x2 : Int32) (x3 : Int32) (x4 : Int32) (h : ZH) : Option (Int32 × ZH) :=
  if x0 < zn h ∧ zK h x0 = 6 then (if x4 = (nI 255) then (some ((nI 0), h)) else
  (if x1 < (nI 1) then (bX6_countNecklaces_26 recX6_countNecklaces x0 x2 x3 x4 h) else
  (if x3 < x1 then (bX6_countNecklaces_26 recX6_countNecklaces x0 x2 x3 x4 h) else
  (if x1 ≤ (nI 7) then (if x2 < (nI 1) then (bX6_countNecklaces_71 recX6_countNecklaces x0 x1 x2 x3 x4 (nI 0) h) else
  (if x1 < x2 then (bX6_countNecklaces_71 recX6_countNecklaces x0 x1 x2 x3 x4 (nI 0) h) else
  ((gR h 6 x0 4).bind fun v7 =>
  (lI h 14 v7 (x1 - x2)).bind fun v8 =>
  bX6_countNecklaces_72 recX6_countNecklaces x0 x1 x2 x3 x4 (nI 0) v8 h))) else
  (bX6_countNecklaces_26 recX6_countNecklaces x0 x2 x3 x4 h))))) else none
theorem kgX6_countNecklaces {recX6_countNecklaces : Nat → Int32 → Int32 → Int32 → Int32 → ZH → Option (Int32 × ZH)} {x0 : Nat} {x1 : Int32} {x2 : Int32} {x3 : Int32} {x4 : Int32} {h : ZH} {x : Int32 × ZH} (e : gX6_countNecklaces recX6_countNecklaces x0 x1 x2 x3 x4 h = some x) : x0 < zn h ∧ zK h x0 = 6 := by
  unfold gX6_countNecklaces at e
  exact zguard e
theorem mgX6_countNecklaces (b0 : Nat) (recX6_countNecklaces : Nat → Int32 → Int32 → Int32 → Int32 → ZH → Option (Int32 × ZH)) (dr : Nat) (hdr : 5 ≤ dr) (hrecX6_countNecklaces : ∀ (y0 : Nat) (y1 : Int32) (y2 : Int32) (y3 : Int32) (y4 : Int32) (h : ZH), ZM zi b0 YX6_countNecklaces dr [.ref (b0 + y0), .int y1, .int y2, .int y3, .int y4] h (recX6_countNecklaces y0 y1 y2 y3 y4 h)) (hrkX6_countNecklaces : ∀ {y0 : Nat} {y1 y2 y3 y4 : Int32} {h : ZH} {x : Int32 × ZH}, recX6_countNecklaces y0 y1 y2 y3 y4 h = some x → y0 < zn h ∧ zK h y0 = 6) (x0 : Nat) (x1 : Int32) (x2 : Int32) (x3 : Int32) (x4 : Int32) (h : ZH) : ZM zi b0 YX6_countNecklaces (dr + 1) [.ref (b0 + x0), .int x1, .int x2, .int x3, .int x4] h (gX6_countNecklaces recX6_countNecklaces x0 x1 x2 x3 x4 h) := by
  unfold gX6_countNecklaces
  refine ZM.of (by decide) rfl (Nat.le_of_ble_eq_true rfl) (fun _ => trivial) ?_
  refine z_sub (lv2 := [(0, .ref (b0 + x0)), (1, .int x1), (2, .int x2), (3, .int x3), (4, .int x4)]) [0, 1, 2, 3, 4] rfl ?_
  refine z_guard (fun _ => ?_)
  refine z_iload 2 4 dX6_countNecklaces_0 rfl rfl ?_
  refine z_sipush (nI 255) 5 zks_255 dX6_countNecklaces_2 rfl ?_
  refine z_icmp_ne 10 8 dX6_countNecklaces_5 (by decide) rfl (fun c1 => ?_) (fun c1 => ?_)
  · refine z_iload_n 11 1 dX6_countNecklaces_10 rfl rfl ?_
    refine z_iconst (nI 1) 12 zki_1 dX6_countNecklaces_11 rfl ?_
    refine z_icmp_lt 26 15 dX6_countNecklaces_12 (by decide) rfl (fun c2 => ?_) (fun c2 => ?_)
    · exact z_sub [0, 2, 3, 4] rfl (BX6_countNecklaces_26 b0 recX6_countNecklaces dr hdr hrecX6_countNecklaces hrkX6_countNecklaces x0 x2 x3 x4 h )
    · refine z_iload_n 16 1 dX6_countNecklaces_15 rfl rfl ?_
      refine z_iload_n 17 3 dX6_countNecklaces_16 rfl rfl ?_
      refine z_icmp_gt 26 20 dX6_countNecklaces_17 (by decide) rfl (fun c3 => ?_) (fun c3 => ?_)
      · exact z_sub [0, 2, 3, 4] rfl (BX6_countNecklaces_26 b0 recX6_countNecklaces dr hdr hrecX6_countNecklaces hrkX6_countNecklaces x0 x2 x3 x4 h )
      · refine z_iload_n 21 1 dX6_countNecklaces_20 rfl rfl ?_
        refine z_bipush (nI 7) 23 zkb_7 dX6_countNecklaces_21 rfl ?_
        refine z_icmp_le 47 26 dX6_countNecklaces_23 (by decide) rfl (fun c4 => ?_) (fun c4 => ?_)
        · refine z_iconst (nI 0) 48 zki_0 dX6_countNecklaces_47 rfl ?_
          refine z_istore (lv2 := [(5, .int (nI 0)), (0, .ref (b0 + x0)), (1, .int x1), (2, .int x2), (3, .int x3), (4, .int x4)]) 50 dX6_countNecklaces_48 rfl (Nat.le_of_ble_eq_true rfl) rfl ?_
          refine z_iload_n 51 3 dX6_countNecklaces_50 rfl rfl ?_
          refine z_iconst (nI 1) 52 zki_1 dX6_countNecklaces_51 rfl ?_
          refine z_icmp_lt 71 55 dX6_countNecklaces_52 (by decide) rfl (fun c5 => ?_) (fun c5 => ?_)
          · exact z_sub [1, 2, 3, 4, 5, 0] rfl (BX6_countNecklaces_71 b0 recX6_countNecklaces dr hdr hrecX6_countNecklaces hrkX6_countNecklaces x0 x1 x2 x3 x4 (nI 0) h )
          · refine z_iload_n 56 3 dX6_countNecklaces_55 rfl rfl ?_
            refine z_iload_n 57 2 dX6_countNecklaces_56 rfl rfl ?_
            refine z_icmp_gt 71 60 dX6_countNecklaces_57 (by decide) rfl (fun c6 => ?_) (fun c6 => ?_)
            · exact z_sub [1, 2, 3, 4, 5, 0] rfl (BX6_countNecklaces_71 b0 recX6_countNecklaces dr hdr hrecX6_countNecklaces hrkX6_countNecklaces x0 x1 x2 x3 x4 (nI 0) h )
            · refine z_aload_n 61 1 dX6_countNecklaces_60 rfl rfl ?_
              refine z_getR 64 zC6 (Nat.le_of_ble_eq_true rfl) rfl w_85 dX6_countNecklaces_61 rfl (fun v7 _ => ?_)
              refine z_iload_n 65 2 dX6_countNecklaces_64 rfl rfl ?_
              refine z_iload_n 66 3 dX6_countNecklaces_65 rfl rfl ?_
              refine z_isub 67 dX6_countNecklaces_66 rfl ?_
              refine z_iaload 68 dX6_countNecklaces_67 rfl (fun v8 _ => ?_)
              refine z_goto 72 dX6_countNecklaces_68 (by decide) ?_
              exact z_sub [1, 2, 3, 4, 5, 0] rfl (BX6_countNecklaces_72 b0 recX6_countNecklaces dr hdr hrecX6_countNecklaces hrkX6_countNecklaces x0 x1 x2 x3 x4 (nI 0) v8 h )
        · exact z_sub [0, 2, 3, 4] rfl (BX6_countNecklaces_26 b0 recX6_countNecklaces dr hdr hrecX6_countNecklaces hrkX6_countNecklaces x0 x2 x3 x4 h )
  · refine z_iconst (nI 0) 9 zki_0 dX6_countNecklaces_8 rfl ?_
    exact z_ireturn dX6_countNecklaces_9 rfl
def fX6_countNecklaces : Nat → Nat → Int32 → Int32 → Int32 → Int32 → ZH → Option (Int32 × ZH)
  | 0, _, _, _, _, _, _ => none
  | nn + 1, x0, x1, x2, x3, x4, h => gX6_countNecklaces (fX6_countNecklaces nn) x0 x1 x2 x3 x4 h
theorem kX6_countNecklaces {nn : Nat} {x0 : Nat} {x1 : Int32} {x2 : Int32} {x3 : Int32} {x4 : Int32} {h : ZH} {x : Int32 × ZH} (e : fX6_countNecklaces nn x0 x1 x2 x3 x4 h = some x) : x0 < zn h ∧ zK h x0 = 6 := by
  cases nn with
  | zero => cases e
  | succ n => exact kgX6_countNecklaces (recX6_countNecklaces := fX6_countNecklaces n) e
theorem mX6_countNecklaces (b0 : Nat) (nn : Nat) (x0 : Nat) (x1 : Int32) (x2 : Int32) (x3 : Int32) (x4 : Int32) (h : ZH) : ZM zi b0 YX6_countNecklaces (5 + 1 * nn) [.ref (b0 + x0), .int x1, .int x2, .int x3, .int x4] h (fX6_countNecklaces nn x0 x1 x2 x3 x4 h) := by
  induction nn generalizing x0 x1 x2 x3 x4 h with
  | zero => intro x hx; cases hx
  | succ nn ih => exact mgX6_countNecklaces b0 (fX6_countNecklaces nn) (5 + 1 * nn) (by omega) ih (fun e => kX6_countNecklaces e) x0 x1 x2 x3 x4 h
-- X6_countOrbits
def fX6_countOrbits (x0 : Nat) (x1 : Int32) (h : ZH) : Option (Int32 × ZH) :=
  if x0 < zn h ∧ zK h x0 = 6 then ((fX10_isWithin x1 (nI 1) (nI 7) h).bind fun q1 =>
  if q1.1 = 0 then (some ((nI 0), q1.2)) else
  ((gR q1.2 6 x0 4).bind fun v3 =>
  (sI q1.2 14 v3 (nI 0) (nI 0)).bind fun h4 =>
  (fX6_start x0 h4).bind fun q5 =>
  (fX6_countNecklaces 10 x0 (nI 1) (nI 1) x1 q5.1 q5.2).bind fun q6 =>
  some (q6.1, q6.2))) else none
theorem kX6_countOrbits {x0 : Nat} {x1 : Int32} {h : ZH} {x : Int32 × ZH} (e : fX6_countOrbits x0 x1 h = some x) : x0 < zn h ∧ zK h x0 = 6 := by
  unfold fX6_countOrbits at e
  exact zguard e
theorem mX6_countOrbits (b0 : Nat) (x0 : Nat) (x1 : Int32) (h : ZH) : ZM zi b0 YX6_countOrbits 16 [.ref (b0 + x0), .int x1] h (fX6_countOrbits x0 x1 h) := by
  unfold fX6_countOrbits
  refine ZM.of (by decide) rfl (Nat.le_of_ble_eq_true rfl) (fun _ => trivial) ?_
  refine z_sub (lv2 := [(0, .ref (b0 + x0)), (1, .int x1)]) [0, 1] rfl ?_
  refine z_guard (fun _ => ?_)
  refine z_iload_n 1 1 dX6_countOrbits_0 rfl rfl ?_
  refine z_iconst (nI 1) 2 zki_1 dX6_countOrbits_1 rfl ?_
  refine z_bipush (nI 7) 4 zkb_7 dX6_countOrbits_2 rfl ?_
  refine z_callSNi 7 (mX10_isWithin b0 x1 (nI 1) (nI 7) h) zyX10_isWithin rfl (List.mem_of_getElem? (i := 15) rfl) wt_yX10_isWithin (Nat.le_of_ble_eq_true rfl) rfl (Nat.le_of_ble_eq_true rfl) dX6_countOrbits_4 rfl (fun q1 => ?_)
  refine z_if_ne 12 10 dX6_countOrbits_7 (by decide) rfl (fun c2 => ?_) (fun c2 => ?_)
  · refine z_aload_n 13 0 dX6_countOrbits_12 rfl rfl ?_
    refine z_getR 16 zC6 (Nat.le_of_ble_eq_true rfl) rfl w_85 dX6_countOrbits_13 rfl (fun v3 _ => ?_)
    refine z_iconst (nI 0) 17 zki_0 dX6_countOrbits_16 rfl ?_
    refine z_iconst (nI 0) 18 zki_0 dX6_countOrbits_17 rfl ?_
    refine z_iastore 19 dX6_countOrbits_18 rfl (fun h4 _ => ?_)
    refine z_aload_n 20 0 dX6_countOrbits_19 rfl rfl ?_
    refine z_iconst (nI 1) 21 zki_1 dX6_countOrbits_20 rfl ?_
    refine z_iconst (nI 1) 22 zki_1 dX6_countOrbits_21 rfl ?_
    refine z_iload_n 23 1 dX6_countOrbits_22 rfl rfl ?_
    refine z_aload_n 24 0 dX6_countOrbits_23 rfl rfl ?_
    refine z_callVi 27 (mX6_start b0 x0 h4) zyX6_start rfl w_556 (ci := 6) rfl (Nat.le_of_ble_eq_true rfl) (fun _ e9 => kX6_start e9) wm_yX6_start ws_yX6_start (Nat.le_of_ble_eq_true rfl) rfl (Nat.le_of_ble_eq_true rfl) dX6_countOrbits_24 rfl (fun q5 => ?_)
    refine z_callVi 30 (mX6_countNecklaces b0 10 x0 (nI 1) (nI 1) x1 q5.1 q5.2) zyX6_countNecklaces rfl w_588 (ci := 6) rfl (Nat.le_of_ble_eq_true rfl) (fun _ e9 => kX6_countNecklaces e9) wm_yX6_countNecklaces ws_yX6_countNecklaces (by omega) rfl (Nat.le_of_ble_eq_true rfl) dX6_countOrbits_27 rfl (fun q6 => ?_)
    exact z_ireturn dX6_countOrbits_30 rfl
  · refine z_iconst (nI 0) 11 zki_0 dX6_countOrbits_10 rfl ?_
    exact z_ireturn dX6_countOrbits_11 rfl
-- X7_init
def bX7_init_14 (t0 : Int32) (t1 : Nat) (h : ZH) : Option (ZH) :=
  (zala h 12 t0).bind fun q1 =>
  (pR q1.2 7 t1 0 q1.1).bind fun h2 =>
  some h2
theorem BX7_init_14 (b0 : Nat) (t0 : Int32) (t1 : Nat) (h : ZH) : Zr zv b0 YX7_init 2 14 [] [.int t0, .ref (b0 + t1)] h (bX7_init_14 t0 t1 h) := by
  unfold bX7_init_14
  refine z_newA_char 16 wa_char dX7_init_14 rfl (fun q1 => ?_)
  refine z_putF 19 zC7 (Nat.le_of_ble_eq_true rfl) rfl rfl rfl rfl rfl (Or.inl ⟨_, rfl⟩) w_64 dX7_init_16 rfl (fun h2 _ => ?_)
  exact z_return dX7_init_19 rfl
def fX7_init (x0 : Nat) (x1 : Int32) (h : ZH) : Option (ZH) :=
  if x0 < zn h ∧ zK h x0 = 7 then (if x1 ≤ 0 then (bX7_init_14 (nI 0) x0 h) else
  (bX7_init_14 x1 x0 h)) else none
theorem kX7_init {x0 : Nat} {x1 : Int32} {h : ZH} {x : ZH} (e : fX7_init x0 x1 h = some x) : x0 < zn h ∧ zK h x0 = 7 := by
  unfold fX7_init at e
  exact zguard e
theorem mX7_init (b0 : Nat) (x0 : Nat) (x1 : Int32) (h : ZH) : ZM zv b0 YX7_init 2 [.ref (b0 + x0), .int x1] h (fX7_init x0 x1 h) := by
  unfold fX7_init
  refine ZM.of (by decide) rfl (Nat.le_of_ble_eq_true rfl) (fun _ => trivial) ?_
  refine z_sub (lv2 := [(0, .ref (b0 + x0)), (1, .int x1)]) [0, 1] rfl ?_
  refine z_guard (fun _ => ?_)
  refine z_aload_n 1 0 dX7_init_0 rfl rfl ?_
  refine z_objInit 4 w_63 wm_Lib_objectInit wc_Lib_objectInit (Nat.le_of_ble_eq_true rfl) (Nat.le_of_ble_eq_true rfl) dX7_init_1 rfl ?_
  refine z_aload_n 5 0 dX7_init_4 rfl rfl ?_
  refine z_iload_n 6 1 dX7_init_5 rfl rfl ?_
  refine z_if_le 13 9 dX7_init_6 (by decide) rfl (fun c1 => ?_) (fun c1 => ?_)
  · refine z_iconst (nI 0) 14 zki_0 dX7_init_13 rfl ?_
    exact z_sub [] rfl (BX7_init_14 b0 (nI 0) x0 h )
  · refine z_iload_n 10 1 dX7_init_9 rfl rfl ?_
    refine z_goto 14 dX7_init_10 (by decide) ?_
    exact z_sub [] rfl (BX7_init_14 b0 x1 x0 h )
-- X7_length
def fX7_length (x0 : Nat) (h : ZH) : Option (Int32 × ZH) :=
  if x0 < zn h ∧ zK h x0 = 7 then ((gI h 7 x0 1).bind fun v1 =>
  some (v1, h)) else none
theorem kX7_length {x0 : Nat} {h : ZH} {x : Int32 × ZH} (e : fX7_length x0 h = some x) : x0 < zn h ∧ zK h x0 = 7 := by
  unfold fX7_length at e
  exact zguard e
theorem mX7_length (b0 : Nat) (x0 : Nat) (h : ZH) : ZM zi b0 YX7_length 1 [.ref (b0 + x0)] h (fX7_length x0 h) := by
  unfold fX7_length
  refine ZM.of (by decide) rfl (Nat.le_of_ble_eq_true rfl) (fun _ => trivial) ?_
  refine z_sub (lv2 := [(0, .ref (b0 + x0))]) [0] rfl ?_
  refine z_guard (fun _ => ?_)
  refine z_aload_n 1 0 dX7_length_0 rfl rfl ?_
  refine z_getI 4 zC7 (Nat.le_of_ble_eq_true rfl) rfl w_65 dX7_length_1 rfl (fun v1 _ => ?_)
  exact z_ireturn dX7_length_4 rfl
-- X7_at
def bX7_at_31 (t0 : Int32) (h : ZH) : Option (Int32 × ZH) :=
  some (t0, h)
theorem BX7_at_31 (b0 : Nat) (t0 : Int32) (h : ZH) : Zr zi b0 YX7_at 1 31 [] [.int t0] h (bX7_at_31 t0 h) := by
  unfold bX7_at_31
  exact z_ireturn dX7_at_31 rfl
def bX7_at_30 (h : ZH) : Option (Int32 × ZH) :=
  bX7_at_31 (nI 0) h
theorem BX7_at_30 (b0 : Nat) (h : ZH) : Zr zi b0 YX7_at 1 30 [] [] h (bX7_at_30 h) := by
  unfold bX7_at_30
  refine z_iconst (nI 0) 31 zki_0 dX7_at_30 rfl ?_
  exact z_sub [] rfl (BX7_at_31 b0 (nI 0) h )
def fX7_at (x0 : Nat) (x1 : Int32) (h : ZH) : Option (Int32 × ZH) :=
  if x0 < zn h ∧ zK h x0 = 7 then (if x1 < 0 then (bX7_at_30 h) else
  ((gI h 7 x0 1).bind fun v2 =>
  if v2 ≤ x1 then (bX7_at_30 h) else
  ((gR h 7 x0 0).bind fun v4 =>
  (zlen h v4).bind fun v5 =>
  if v5 ≤ x1 then (bX7_at_30 h) else
  ((gR h 7 x0 0).bind fun v7 =>
  (lI h 12 v7 x1).bind fun v8 =>
  bX7_at_31 v8 h)))) else none
theorem kX7_at {x0 : Nat} {x1 : Int32} {h : ZH} {x : Int32 × ZH} (e : fX7_at x0 x1 h = some x) : x0 < zn h ∧ zK h x0 = 7 := by
  unfold fX7_at at e
  exact zguard e
theorem mX7_at (b0 : Nat) (x0 : Nat) (x1 : Int32) (h : ZH) : ZM zi b0 YX7_at 1 [.ref (b0 + x0), .int x1] h (fX7_at x0 x1 h) := by
  unfold fX7_at
  refine ZM.of (by decide) rfl (Nat.le_of_ble_eq_true rfl) (fun _ => trivial) ?_
  refine z_sub (lv2 := [(0, .ref (b0 + x0)), (1, .int x1)]) [0, 1] rfl ?_
  refine z_guard (fun _ => ?_)
  refine z_iload_n 1 1 dX7_at_0 rfl rfl ?_
  refine z_if_lt 30 4 dX7_at_1 (by decide) rfl (fun c1 => ?_) (fun c1 => ?_)
  · exact z_sub [] rfl (BX7_at_30 b0 h )
  · refine z_iload_n 5 1 dX7_at_4 rfl rfl ?_
    refine z_aload_n 6 0 dX7_at_5 rfl rfl ?_
    refine z_getI 9 zC7 (Nat.le_of_ble_eq_true rfl) rfl w_65 dX7_at_6 rfl (fun v2 _ => ?_)
    refine z_icmp_ge 30 12 dX7_at_9 (by decide) rfl (fun c3 => ?_) (fun c3 => ?_)
    · exact z_sub [] rfl (BX7_at_30 b0 h )
    · refine z_iload_n 13 1 dX7_at_12 rfl rfl ?_
      refine z_aload_n 14 0 dX7_at_13 rfl rfl ?_
      refine z_getR 17 zC7 (Nat.le_of_ble_eq_true rfl) rfl w_64 dX7_at_14 rfl (fun v4 _ => ?_)
      refine z_alen 18 dX7_at_17 rfl (fun v5 _ => ?_)
      refine z_icmp_ge 30 21 dX7_at_18 (by decide) rfl (fun c6 => ?_) (fun c6 => ?_)
      · exact z_sub [] rfl (BX7_at_30 b0 h )
      · refine z_aload_n 22 0 dX7_at_21 rfl rfl ?_
        refine z_getR 25 zC7 (Nat.le_of_ble_eq_true rfl) rfl w_64 dX7_at_22 rfl (fun v7 _ => ?_)
        refine z_iload_n 26 1 dX7_at_25 rfl rfl ?_
        refine z_caload 27 dX7_at_26 rfl (fun v8 _ => ?_)
        refine z_goto 31 dX7_at_27 (by decide) ?_
        exact z_sub [] rfl (BX7_at_31 b0 v8 h )
-- X8_init
def fX8_init (x0 : Nat) (h : ZH) : Option (ZH) :=
  if x0 < zn h ∧ zK h x0 = 8 then ((zala h 15 (nI 256)).bind fun q1 =>
  (pR q1.2 8 x0 0 q1.1).bind fun h2 =>
  (zala h2 14 (nI 64)).bind fun q3 =>
  (pR q3.2 8 x0 1 q3.1).bind fun h4 =>
  some h4) else none
theorem kX8_init {x0 : Nat} {h : ZH} {x : ZH} (e : fX8_init x0 h = some x) : x0 < zn h ∧ zK h x0 = 8 := by
  unfold fX8_init at e
  exact zguard e
theorem mX8_init (b0 : Nat) (x0 : Nat) (h : ZH) : ZM zv b0 YX8_init 2 [.ref (b0 + x0)] h (fX8_init x0 h) := by
  unfold fX8_init
  refine ZM.of (by decide) rfl (Nat.le_of_ble_eq_true rfl) (fun _ => trivial) ?_
  refine z_sub (lv2 := [(0, .ref (b0 + x0))]) [0] rfl ?_
  refine z_guard (fun _ => ?_)
  refine z_aload_n 1 0 dX8_init_0 rfl rfl ?_
  refine z_objInit 4 w_192 wm_Lib_objectInit wc_Lib_objectInit (Nat.le_of_ble_eq_true rfl) (Nat.le_of_ble_eq_true rfl) dX8_init_1 rfl ?_
  refine z_aload_n 5 0 dX8_init_4 rfl rfl ?_
  refine z_sipush (nI 256) 8 zks_256 dX8_init_5 rfl ?_
  refine z_newA_long 10 wa_long dX8_init_8 rfl (fun q1 => ?_)
  refine z_putF 13 zC8 (Nat.le_of_ble_eq_true rfl) rfl rfl rfl rfl rfl (Or.inl ⟨_, rfl⟩) w_193 dX8_init_10 rfl (fun h2 _ => ?_)
  refine z_aload_n 14 0 dX8_init_13 rfl rfl ?_
  refine z_bipush (nI 64) 16 zkb_64 dX8_init_14 rfl ?_
  refine z_newA_int 18 wa_int dX8_init_16 rfl (fun q3 => ?_)
  refine z_putF 21 zC8 (Nat.le_of_ble_eq_true rfl) rfl rfl rfl rfl rfl (Or.inl ⟨_, rfl⟩) w_194 dX8_init_18 rfl (fun h4 _ => ?_)
  exact z_return dX8_init_21 rfl
-- X8_clear
def fX8_clear (x0 : Nat) (h : ZH) : Option (ZH) :=
  if x0 < zn h ∧ zK h x0 = 8 then ((gR h 8 x0 0).bind fun v1 =>
  (fJ7_fill_d0a16 v1 (lN 0) h).bind fun h2 =>
  some h2) else none
theorem kX8_clear {x0 : Nat} {h : ZH} {x : ZH} (e : fX8_clear x0 h = some x) : x0 < zn h ∧ zK h x0 = 8 := by
  unfold fX8_clear at e
  exact zguard e
theorem mX8_clear (b0 : Nat) (x0 : Nat) (h : ZH) : ZM zv b0 YX8_clear 2 [.ref (b0 + x0)] h (fX8_clear x0 h) := by
  unfold fX8_clear
  refine ZM.of (by decide) rfl (Nat.le_of_ble_eq_true rfl) (fun _ => trivial) ?_
  refine z_sub (lv2 := [(0, .ref (b0 + x0))]) [0] rfl ?_
  refine z_guard (fun _ => ?_)
  refine z_aload_n 1 0 dX8_clear_0 rfl rfl ?_
  refine z_getR 4 zC8 (Nat.le_of_ble_eq_true rfl) rfl w_193 dX8_clear_1 rfl (fun v1 _ => ?_)
  refine z_lconst (lN 0) 5 rfl dX8_clear_4 rfl ?_
  refine z_callSv 8 (mJ7_fill_d0a16 b0 v1 (lN 0) h) zyJ7_fill_d0a16 rfl w_831 wt_yJ7_fill_d0a16 (Nat.le_of_ble_eq_true rfl) rfl (Nat.le_of_ble_eq_true rfl) dX8_clear_5 rfl (fun h2 => ?_)
  exact z_return dX8_clear_8 rfl
-- X8_link
def bX8_link_31 (h : ZH) : Option (ZH) :=
  some h
theorem BX8_link_31 (b0 : Nat) (h : ZH) : Zr zv b0 YX8_link 2 31 [] [] h (bX8_link_31 h) := by
  unfold bX8_link_31
  exact z_return dX8_link_31 rfl
def fX8_link (x0 : Nat) (x1 : Int32) (x2 : Int32) (x3 : Int64) (h : ZH) : Option (ZH) :=
  if x0 < zn h ∧ zK h x0 = 8 then (if x1 < 0 then (bX8_link_31 h) else
  (if (nI 64) ≤ x1 then (bX8_link_31 h) else
  ((fX10_isLetter x2 h).bind fun q3 =>
  if q3.1 = 0 then (bX8_link_31 q3.2) else
  ((gR q3.2 8 x0 0).bind fun v5 =>
  zl (((nI 4) * x1) + x2) fun v6 =>
  (lJ q3.2 v5 v6).bind fun v7 =>
  (sJ q3.2 v5 v6 (v7 ||| x3)).bind fun h8 =>
  bX8_link_31 h8)))) else none
theorem kX8_link {x0 : Nat} {x1 : Int32} {x2 : Int32} {x3 : Int64} {h : ZH} {x : ZH} (e : fX8_link x0 x1 x2 x3 h = some x) : x0 < zn h ∧ zK h x0 = 8 := by
  unfold fX8_link at e
  exact zguard e
theorem mX8_link (b0 : Nat) (x0 : Nat) (x1 : Int32) (x2 : Int32) (x3 : Int64) (h : ZH) : ZM zv b0 YX8_link 2 [.ref (b0 + x0), .int x1, .int x2, .long x3] h (fX8_link x0 x1 x2 x3 h) := by
  unfold fX8_link
  refine ZM.of (by decide) rfl (Nat.le_of_ble_eq_true rfl) (fun _ => trivial) ?_
  refine z_sub (lv2 := [(0, .ref (b0 + x0)), (1, .int x1), (2, .int x2), (3, .long x3)]) [0, 1, 2, 3] rfl ?_
  refine z_guard (fun _ => ?_)
  refine z_iload_n 1 1 dX8_link_0 rfl rfl ?_
  refine z_if_lt 31 4 dX8_link_1 (by decide) rfl (fun c1 => ?_) (fun c1 => ?_)
  · exact z_sub [] rfl (BX8_link_31 b0 h )
  · refine z_iload_n 5 1 dX8_link_4 rfl rfl ?_
    refine z_bipush (nI 64) 7 zkb_64 dX8_link_5 rfl ?_
    refine z_icmp_ge 31 10 dX8_link_7 (by decide) rfl (fun c2 => ?_) (fun c2 => ?_)
    · exact z_sub [] rfl (BX8_link_31 b0 h )
    · refine z_iload_n 11 2 dX8_link_10 rfl rfl ?_
      refine z_callSNi 14 (mX10_isLetter b0 x2 h) zyX10_isLetter rfl (List.mem_of_getElem? (i := 18) rfl) wt_yX10_isLetter (Nat.le_of_ble_eq_true rfl) rfl (Nat.le_of_ble_eq_true rfl) dX8_link_11 rfl (fun q3 => ?_)
      refine z_if_eq 31 17 dX8_link_14 (by decide) rfl (fun c4 => ?_) (fun c4 => ?_)
      · exact z_sub [] rfl (BX8_link_31 b0 q3.2 )
      · refine z_aload_n 18 0 dX8_link_17 rfl rfl ?_
        refine z_getR 21 zC8 (Nat.le_of_ble_eq_true rfl) rfl w_193 dX8_link_18 rfl (fun v5 _ => ?_)
        refine z_iconst (nI 4) 22 zki_4 dX8_link_21 rfl ?_
        refine z_iload_n 23 1 dX8_link_22 rfl rfl ?_
        refine z_imul 24 dX8_link_23 rfl ?_
        refine z_iload_n 25 2 dX8_link_24 rfl rfl ?_
        refine z_iadd 26 dX8_link_25 rfl ?_
        refine z_letI (fun v6 _ => ?_)
        refine z_dup2 27 rfl rfl dX8_link_26 rfl ?_
        refine z_laload 28 dX8_link_27 rfl (fun v7 _ => ?_)
        refine z_lload_n 29 3 dX8_link_28 rfl rfl ?_
        refine z_lor 30 dX8_link_29 rfl ?_
        refine z_lastore 31 dX8_link_30 rfl (fun h8 _ => ?_)
        exact z_sub [] rfl (BX8_link_31 b0 h8 )
-- J13_bitCount_95d88
def fJ13_bitCount_95d88 (x0 : Int64) (h : ZH) : Option (Int32 × ZH) :=
  zl (x0 - ((jlushr x0 (nI 1)) &&& (6148914691236517205 : Int64))) fun v1 =>
  zl ((v1 &&& (3689348814741910323 : Int64)) + ((jlushr v1 (nI 2)) &&& (3689348814741910323 : Int64))) fun v2 =>
  zl ((v2 + (jlushr v2 (nI 4))) &&& (1085102592571150095 : Int64)) fun v3 =>
  zl (v3 + (jlushr v3 (nI 8))) fun v4 =>
  zl (v4 + (jlushr v4 (nI 16))) fun v5 =>
  zl (v5 + (jlushr v5 (nI 32))) fun v6 =>
  some (((v6.toInt32) &&& (nI 127)), h)
theorem mJ13_bitCount_95d88 (b0 : Nat) (x0 : Int64) (h : ZH) : ZM zi b0 YJ13_bitCount_95d88 1 [.long x0] h (fJ13_bitCount_95d88 x0 h) := by
  unfold fJ13_bitCount_95d88
  refine ZM.of (by decide) rfl (Nat.le_of_ble_eq_true rfl) (fun _ => trivial) ?_
  refine z_sub (lv2 := [(0, .long x0)]) [0] rfl ?_
  refine z_lload_n 1 0 dJ13_bitCount_95d88_0 rfl rfl ?_
  refine z_lload_n 2 0 dJ13_bitCount_95d88_1 rfl rfl ?_
  refine z_iconst (nI 1) 3 zki_1 dJ13_bitCount_95d88_2 rfl ?_
  refine z_lushr 4 dJ13_bitCount_95d88_3 rfl ?_
  refine z_ldc2 7 w_861 dJ13_bitCount_95d88_4 rfl ?_
  refine z_land 8 dJ13_bitCount_95d88_7 rfl ?_
  refine z_lsub 9 dJ13_bitCount_95d88_8 rfl ?_
  refine z_letJ (fun v1 _ => ?_)
  refine z_lstore_n (lv2 := [(0, .long v1)]) 10 dJ13_bitCount_95d88_9 rfl (Nat.le_of_ble_eq_true rfl) rfl ?_
  refine z_lload_n 11 0 dJ13_bitCount_95d88_10 rfl rfl ?_
  refine z_ldc2 14 w_862 dJ13_bitCount_95d88_11 rfl ?_
  refine z_land 15 dJ13_bitCount_95d88_14 rfl ?_
  refine z_lload_n 16 0 dJ13_bitCount_95d88_15 rfl rfl ?_
  refine z_iconst (nI 2) 17 zki_2 dJ13_bitCount_95d88_16 rfl ?_
  refine z_lushr 18 dJ13_bitCount_95d88_17 rfl ?_
  refine z_ldc2 21 w_862 dJ13_bitCount_95d88_18 rfl ?_
  refine z_land 22 dJ13_bitCount_95d88_21 rfl ?_
  refine z_ladd 23 dJ13_bitCount_95d88_22 rfl ?_
  refine z_letJ (fun v2 _ => ?_)
  refine z_lstore_n (lv2 := [(0, .long v2)]) 24 dJ13_bitCount_95d88_23 rfl (Nat.le_of_ble_eq_true rfl) rfl ?_
  refine z_lload_n 25 0 dJ13_bitCount_95d88_24 rfl rfl ?_
  refine z_lload_n 26 0 dJ13_bitCount_95d88_25 rfl rfl ?_
  refine z_iconst (nI 4) 27 zki_4 dJ13_bitCount_95d88_26 rfl ?_
  refine z_lushr 28 dJ13_bitCount_95d88_27 rfl ?_
  refine z_ladd 29 dJ13_bitCount_95d88_28 rfl ?_
  refine z_ldc2 32 w_863 dJ13_bitCount_95d88_29 rfl ?_
  refine z_land 33 dJ13_bitCount_95d88_32 rfl ?_
  refine z_letJ (fun v3 _ => ?_)
  refine z_lstore_n (lv2 := [(0, .long v3)]) 34 dJ13_bitCount_95d88_33 rfl (Nat.le_of_ble_eq_true rfl) rfl ?_
  refine z_lload_n 35 0 dJ13_bitCount_95d88_34 rfl rfl ?_
  refine z_lload_n 36 0 dJ13_bitCount_95d88_35 rfl rfl ?_
  refine z_bipush (nI 8) 38 zkb_8 dJ13_bitCount_95d88_36 rfl ?_
  refine z_lushr 39 dJ13_bitCount_95d88_38 rfl ?_
  refine z_ladd 40 dJ13_bitCount_95d88_39 rfl ?_
  refine z_letJ (fun v4 _ => ?_)
  refine z_lstore_n (lv2 := [(0, .long v4)]) 41 dJ13_bitCount_95d88_40 rfl (Nat.le_of_ble_eq_true rfl) rfl ?_
  refine z_lload_n 42 0 dJ13_bitCount_95d88_41 rfl rfl ?_
  refine z_lload_n 43 0 dJ13_bitCount_95d88_42 rfl rfl ?_
  refine z_bipush (nI 16) 45 zkb_16 dJ13_bitCount_95d88_43 rfl ?_
  refine z_lushr 46 dJ13_bitCount_95d88_45 rfl ?_
  refine z_ladd 47 dJ13_bitCount_95d88_46 rfl ?_
  refine z_letJ (fun v5 _ => ?_)
  refine z_lstore_n (lv2 := [(0, .long v5)]) 48 dJ13_bitCount_95d88_47 rfl (Nat.le_of_ble_eq_true rfl) rfl ?_
  refine z_lload_n 49 0 dJ13_bitCount_95d88_48 rfl rfl ?_
  refine z_lload_n 50 0 dJ13_bitCount_95d88_49 rfl rfl ?_
  refine z_bipush (nI 32) 52 zkb_32 dJ13_bitCount_95d88_50 rfl ?_
  refine z_lushr 53 dJ13_bitCount_95d88_52 rfl ?_
  refine z_ladd 54 dJ13_bitCount_95d88_53 rfl ?_
  refine z_letJ (fun v6 _ => ?_)
  refine z_lstore_n (lv2 := [(0, .long v6)]) 55 dJ13_bitCount_95d88_54 rfl (Nat.le_of_ble_eq_true rfl) rfl ?_
  refine z_lload_n 56 0 dJ13_bitCount_95d88_55 rfl rfl ?_
  refine z_l2i 57 dJ13_bitCount_95d88_56 rfl ?_
  refine z_bipush (nI 127) 59 zkb_127 dJ13_bitCount_95d88_57 rfl ?_
  refine z_iand 60 dJ13_bitCount_95d88_59 rfl ?_
  exact z_ireturn dJ13_bitCount_95d88_60 rfl
-- X8_row
def bX8_row_31 (t0 : Int64) (h : ZH) : Option (Int64 × ZH) :=
  some (t0, h)
theorem BX8_row_31 (b0 : Nat) (t0 : Int64) (h : ZH) : Zr zj b0 YX8_row 2 31 [] [.long t0] h (bX8_row_31 t0 h) := by
  unfold bX8_row_31
  exact z_lreturn dX8_row_31 rfl
def bX8_row_30 (h : ZH) : Option (Int64 × ZH) :=
  bX8_row_31 (lN 0) h
theorem BX8_row_30 (b0 : Nat) (h : ZH) : Zr zj b0 YX8_row 2 30 [] [] h (bX8_row_30 h) := by
  unfold bX8_row_30
  refine z_lconst (lN 0) 31 rfl dX8_row_30 rfl ?_
  exact z_sub [] rfl (BX8_row_31 b0 (lN 0) h )
def fX8_row (x0 : Nat) (x1 : Int32) (x2 : Int32) (h : ZH) : Option (Int64 × ZH) :=
  if x0 < zn h ∧ zK h x0 = 8 then (if x1 < 0 then (bX8_row_30 h) else
  (if (nI 64) ≤ x1 then (bX8_row_30 h) else
  ((fX10_isLetter x2 h).bind fun q3 =>
  if q3.1 = 0 then (bX8_row_30 q3.2) else
  ((gR q3.2 8 x0 0).bind fun v5 =>
  (lJ q3.2 v5 (((nI 4) * x1) + x2)).bind fun v6 =>
  bX8_row_31 v6 q3.2)))) else none
theorem kX8_row {x0 : Nat} {x1 : Int32} {x2 : Int32} {h : ZH} {x : Int64 × ZH} (e : fX8_row x0 x1 x2 h = some x) : x0 < zn h ∧ zK h x0 = 8 := by
  unfold fX8_row at e
  exact zguard e
theorem mX8_row (b0 : Nat) (x0 : Nat) (x1 : Int32) (x2 : Int32) (h : ZH) : ZM zj b0 YX8_row 2 [.ref (b0 + x0), .int x1, .int x2] h (fX8_row x0 x1 x2 h) := by
  unfold fX8_row
  refine ZM.of (by decide) rfl (Nat.le_of_ble_eq_true rfl) (fun _ => trivial) ?_
  refine z_sub (lv2 := [(0, .ref (b0 + x0)), (1, .int x1), (2, .int x2)]) [0, 1, 2] rfl ?_
  refine z_guard (fun _ => ?_)
  refine z_iload_n 1 1 dX8_row_0 rfl rfl ?_
  refine z_if_lt 30 4 dX8_row_1 (by decide) rfl (fun c1 => ?_) (fun c1 => ?_)
  · exact z_sub [] rfl (BX8_row_30 b0 h )
  · refine z_iload_n 5 1 dX8_row_4 rfl rfl ?_
    refine z_bipush (nI 64) 7 zkb_64 dX8_row_5 rfl ?_
    refine z_icmp_ge 30 10 dX8_row_7 (by decide) rfl (fun c2 => ?_) (fun c2 => ?_)
    · exact z_sub [] rfl (BX8_row_30 b0 h )
    · refine z_iload_n 11 2 dX8_row_10 rfl rfl ?_
      refine z_callSNi 14 (mX10_isLetter b0 x2 h) zyX10_isLetter rfl (List.mem_of_getElem? (i := 18) rfl) wt_yX10_isLetter (Nat.le_of_ble_eq_true rfl) rfl (Nat.le_of_ble_eq_true rfl) dX8_row_11 rfl (fun q3 => ?_)
      refine z_if_eq 30 17 dX8_row_14 (by decide) rfl (fun c4 => ?_) (fun c4 => ?_)
      · exact z_sub [] rfl (BX8_row_30 b0 q3.2 )
      · refine z_aload_n 18 0 dX8_row_17 rfl rfl ?_
        refine z_getR 21 zC8 (Nat.le_of_ble_eq_true rfl) rfl w_193 dX8_row_18 rfl (fun v5 _ => ?_)
        refine z_iconst (nI 4) 22 zki_4 dX8_row_21 rfl ?_
        refine z_iload_n 23 1 dX8_row_22 rfl rfl ?_
        refine z_imul 24 dX8_row_23 rfl ?_
        refine z_iload_n 25 2 dX8_row_24 rfl rfl ?_
        refine z_iadd 26 dX8_row_25 rfl ?_
        refine z_laload 27 dX8_row_26 rfl (fun v6 _ => ?_)
        refine z_goto 31 dX8_row_27 (by decide) ?_
        exact z_sub [] rfl (BX8_row_31 b0 v6 q3.2 )
-- X8_copyEdges
def bX8_copyEdges_57 (self3 : Int32 × ZH → Option (ZH)) (self23 : Int32 × ZH → Option (ZH)) (x0 : Nat) (x1 : Int32) (x2 : Int32) (x3 : Int64) (x5 : Nat) (x6 : Int32) (x7 : Int64) (x9 : Int32) (h : ZH) : Option (ZH) :=
  self23 ((x9 + (nI 1)), h)
theorem BX8_copyEdges_57 (b0 : Nat) (self3 : Int32 × ZH → Option (ZH)) (self23 : Int32 × ZH → Option (ZH)) (x0 : Nat) (x1 : Int32) (x2 : Int32) (x3 : Int64) (x5 : Nat) (x6 : Int32) (x7 : Int64) (x9 : Int32) (h : ZH) (hself3 : ∀ (y6 : Int32) (hh : ZH), Zr zv b0 YX8_copyEdges 4 3 [(0, .ref (b0 + x0)), (1, .int x1), (2, .int x2), (3, .long x3), (5, .ref (b0 + x5)), (6, .int y6)] [] hh (self3 (y6, hh))) (hself23 : ∀ (y9 : Int32) (hh : ZH), Zr zv b0 YX8_copyEdges 4 23 [(0, .ref (b0 + x0)), (1, .int x1), (2, .int x2), (3, .long x3), (5, .ref (b0 + x5)), (6, .int x6), (7, .long x7), (9, .int y9)] [] hh (self23 (y9, hh))) : Zr zv b0 YX8_copyEdges 4 57 [(0, .ref (b0 + x0)), (1, .int x1), (2, .int x2), (3, .long x3), (5, .ref (b0 + x5)), (6, .int x6), (7, .long x7), (9, .int x9)] [] h (bX8_copyEdges_57 self3 self23 x0 x1 x2 x3 x5 x6 x7 x9 h) := by
  unfold bX8_copyEdges_57
  refine z_iinc (lv2 := [(9, .int (x9 + (nI 1))), (0, .ref (b0 + x0)), (1, .int x1), (2, .int x2), (3, .long x3), (5, .ref (b0 + x5)), (6, .int x6), (7, .long x7)]) (nI 1) 60 7 dX8_copyEdges_57 rfl rfl zki_1 (Nat.le_of_ble_eq_true rfl) rfl ?_
  refine z_goto 23 dX8_copyEdges_60 (by decide) ?_
  exact z_sub [1, 2, 3, 4, 5, 6, 7, 0] rfl (hself23 (x9 + (nI 1)) h)
def kX8_copyEdges_23 (self3 : Int32 × ZH → Option (ZH)) (x0 : Nat) (x1 : Int32) (x2 : Int32) (x3 : Int64) (x5 : Nat) (x6 : Int32) (x7 : Int64) (self23 : Int32 × ZH → Option (ZH)) (x9 : Int32) (h : ZH) : Option (ZH) :=
  if (nI 64) ≤ x9 then (self3 ((x6 + (nI 1)), h)) else
  (if (lg_cmp ((jlshr x7 x9) &&& (lN 1)) (lN 0)) = 0 then (bX8_copyEdges_57 self3 self23 x0 x1 x2 x3 x5 x6 x7 x9 h) else
  ((gR h 8 x0 1).bind fun v3 =>
  (lI h 14 v3 x9).bind fun v4 =>
  (fX1_put x5 x2 x6 v4 h).bind fun h5 =>
  bX8_copyEdges_57 self3 self23 x0 x1 x2 x3 x5 x6 x7 x9 h5))
def lX8_copyEdges_23 (self3 : Int32 × ZH → Option (ZH)) (x0 : Nat) (x1 : Int32) (x2 : Int32) (x3 : Int64) (x5 : Nat) (x6 : Int32) (x7 : Int64) : (Int32 × ZH → Option (ZH)) → Int32 × ZH → Option (ZH) := fun self s => kX8_copyEdges_23 self3 x0 x1 x2 x3 x5 x6 x7 self s.1 s.2
theorem KX8_copyEdges_23 (b0 : Nat) (self3 : Int32 × ZH → Option (ZH)) (x0 : Nat) (x1 : Int32) (x2 : Int32) (x3 : Int64) (x5 : Nat) (x6 : Int32) (x7 : Int64) (hself3 : ∀ (y6 : Int32) (hh : ZH), Zr zv b0 YX8_copyEdges 4 3 [(0, .ref (b0 + x0)), (1, .int x1), (2, .int x2), (3, .long x3), (5, .ref (b0 + x5)), (6, .int y6)] [] hh (self3 (y6, hh))) (self23 : Int32 × ZH → Option (ZH)) (hself23 : ∀ (y9 : Int32) (hh : ZH), Zr zv b0 YX8_copyEdges 4 23 [(0, .ref (b0 + x0)), (1, .int x1), (2, .int x2), (3, .long x3), (5, .ref (b0 + x5)), (6, .int x6), (7, .long x7), (9, .int y9)] [] hh (self23 (y9, hh))) (x9 : Int32) (h : ZH) : Zr zv b0 YX8_copyEdges 4 23 [(0, .ref (b0 + x0)), (1, .int x1), (2, .int x2), (3, .long x3), (5, .ref (b0 + x5)), (6, .int x6), (7, .long x7), (9, .int x9)] [] h (kX8_copyEdges_23 self3 x0 x1 x2 x3 x5 x6 x7 self23 x9 h) := by
  unfold kX8_copyEdges_23
  refine z_iload 25 7 dX8_copyEdges_23 rfl rfl ?_
  refine z_bipush (nI 64) 27 zkb_64 dX8_copyEdges_25 rfl ?_
  refine z_icmp_ge 63 30 dX8_copyEdges_27 (by decide) rfl (fun c1 => ?_) (fun c1 => ?_)
  · refine z_iinc (lv2 := [(6, .int (x6 + (nI 1))), (0, .ref (b0 + x0)), (1, .int x1), (2, .int x2), (3, .long x3), (5, .ref (b0 + x5)), (7, .long x7), (9, .int x9)]) (nI 1) 66 5 dX8_copyEdges_63 rfl rfl zki_1 (Nat.le_of_ble_eq_true rfl) rfl ?_
    refine z_goto 3 dX8_copyEdges_66 (by decide) ?_
    exact z_sub [1, 2, 3, 4, 5, 0] rfl (hself3 (x6 + (nI 1)) h)
  · refine z_lload 32 6 dX8_copyEdges_30 rfl rfl ?_
    refine z_iload 34 7 dX8_copyEdges_32 rfl rfl ?_
    refine z_lshr 35 dX8_copyEdges_34 rfl ?_
    refine z_lconst (lN 1) 36 rfl dX8_copyEdges_35 rfl ?_
    refine z_land 37 dX8_copyEdges_36 rfl ?_
    refine z_lconst (lN 0) 38 rfl dX8_copyEdges_37 rfl ?_
    refine z_lcmp 39 dX8_copyEdges_38 rfl ?_
    refine z_if_eq 57 42 dX8_copyEdges_39 (by decide) rfl (fun c2 => ?_) (fun c2 => ?_)
    · exact z_sub [0, 1, 2, 3, 4, 5, 6, 7] rfl (BX8_copyEdges_57 b0 self3 self23 x0 x1 x2 x3 x5 x6 x7 x9 h hself3 hself23)
    · refine z_aload 44 4 dX8_copyEdges_42 rfl rfl ?_
      refine z_iload_n 45 2 dX8_copyEdges_44 rfl rfl ?_
      refine z_iload 47 5 dX8_copyEdges_45 rfl rfl ?_
      refine z_aload_n 48 0 dX8_copyEdges_47 rfl rfl ?_
      refine z_getR 51 zC8 (Nat.le_of_ble_eq_true rfl) rfl w_194 dX8_copyEdges_48 rfl (fun v3 _ => ?_)
      refine z_iload 53 7 dX8_copyEdges_51 rfl rfl ?_
      refine z_iaload 54 dX8_copyEdges_53 rfl (fun v4 _ => ?_)
      refine z_callVv 57 (mX1_put b0 x5 x2 x6 v4 h) zyX1_put rfl w_873 (ci := 1) rfl (Nat.le_of_ble_eq_true rfl) (fun _ e9 => kX1_put e9) wm_yX1_put ws_yX1_put (Nat.le_of_ble_eq_true rfl) rfl (Nat.le_of_ble_eq_true rfl) dX8_copyEdges_54 rfl (fun h5 => ?_)
      exact z_sub [0, 1, 2, 3, 4, 5, 6, 7] rfl (BX8_copyEdges_57 b0 self3 self23 x0 x1 x2 x3 x5 x6 x7 x9 h5 hself3 hself23)
theorem BX8_copyEdges_23 (b0 : Nat) (self3 : Int32 × ZH → Option (ZH)) (x0 : Nat) (x1 : Int32) (x2 : Int32) (x3 : Int64) (x5 : Nat) (x6 : Int32) (x7 : Int64) (hself3 : ∀ (y6 : Int32) (hh : ZH), Zr zv b0 YX8_copyEdges 4 3 [(0, .ref (b0 + x0)), (1, .int x1), (2, .int x2), (3, .long x3), (5, .ref (b0 + x5)), (6, .int y6)] [] hh (self3 (y6, hh))) (n : Nat) (x9 : Int32) (h : ZH) : Zr zv b0 YX8_copyEdges 4 23 [(0, .ref (b0 + x0)), (1, .int x1), (2, .int x2), (3, .long x3), (5, .ref (b0 + x5)), (6, .int x6), (7, .long x7), (9, .int x9)] [] h (zloop (lX8_copyEdges_23 self3 x0 x1 x2 x3 x5 x6 x7) n (x9, h)) :=
  zloop_Zr (fun s => [(0, .ref (b0 + x0)), (1, .int x1), (2, .int x2), (3, .long x3), (5, .ref (b0 + x5)), (6, .int x6), (7, .long x7), (9, .int s.1)]) (fun _ => []) (fun s => s.2) (lX8_copyEdges_23 self3 x0 x1 x2 x3 x5 x6 x7) (fun self hs s => KX8_copyEdges_23 b0 self3 x0 x1 x2 x3 x5 x6 x7 hself3 self (fun y9 hh => hs (y9, hh)) s.1 s.2) n (x9, h)
def kX8_copyEdges_3 (x0 : Nat) (x1 : Int32) (x2 : Int32) (x3 : Int64) (x5 : Nat) (self3 : Int32 × ZH → Option (ZH)) (x6 : Int32) (h : ZH) : Option (ZH) :=
  if (nI 4) ≤ x6 then (some h) else
  ((fX8_row x0 x1 x6 h).bind fun q2 =>
  zl (q2.1 &&& x3) fun v3 =>
  zloop (lX8_copyEdges_23 self3 x0 x1 x2 x3 x5 x6 v3) zfu ((nI 0), q2.2))
def lX8_copyEdges_3 (x0 : Nat) (x1 : Int32) (x2 : Int32) (x3 : Int64) (x5 : Nat) : (Int32 × ZH → Option (ZH)) → Int32 × ZH → Option (ZH) := fun self s => kX8_copyEdges_3 x0 x1 x2 x3 x5 self s.1 s.2
theorem KX8_copyEdges_3 (b0 : Nat) (x0 : Nat) (x1 : Int32) (x2 : Int32) (x3 : Int64) (x5 : Nat) (self3 : Int32 × ZH → Option (ZH)) (hself3 : ∀ (y6 : Int32) (hh : ZH), Zr zv b0 YX8_copyEdges 4 3 [(0, .ref (b0 + x0)), (1, .int x1), (2, .int x2), (3, .long x3), (5, .ref (b0 + x5)), (6, .int y6)] [] hh (self3 (y6, hh))) (x6 : Int32) (h : ZH) : Zr zv b0 YX8_copyEdges 4 3 [(0, .ref (b0 + x0)), (1, .int x1), (2, .int x2), (3, .long x3), (5, .ref (b0 + x5)), (6, .int x6)] [] h (kX8_copyEdges_3 x0 x1 x2 x3 x5 self3 x6 h) := by
  unfold kX8_copyEdges_3
  refine z_iload 5 5 dX8_copyEdges_3 rfl rfl ?_
  refine z_iconst (nI 4) 6 zki_4 dX8_copyEdges_5 rfl ?_
  refine z_icmp_ge 69 9 dX8_copyEdges_6 (by decide) rfl (fun c1 => ?_) (fun c1 => ?_)
  · exact z_return dX8_copyEdges_69 rfl
  · refine z_aload_n 10 0 dX8_copyEdges_9 rfl rfl ?_
    refine z_iload_n 11 1 dX8_copyEdges_10 rfl rfl ?_
    refine z_iload 13 5 dX8_copyEdges_11 rfl rfl ?_
    refine z_callVj 16 (mX8_row b0 x0 x1 x6 h) zyX8_row rfl w_854 (ci := 8) rfl (Nat.le_of_ble_eq_true rfl) (fun _ e9 => kX8_row e9) wm_yX8_row ws_yX8_row (Nat.le_of_ble_eq_true rfl) rfl (Nat.le_of_ble_eq_true rfl) dX8_copyEdges_13 rfl (fun q2 => ?_)
    refine z_lload_n 17 3 dX8_copyEdges_16 rfl rfl ?_
    refine z_land 18 dX8_copyEdges_17 rfl ?_
    refine z_letJ (fun v3 _ => ?_)
    refine z_lstore (lv2 := [(7, .long v3), (0, .ref (b0 + x0)), (1, .int x1), (2, .int x2), (3, .long x3), (5, .ref (b0 + x5)), (6, .int x6)]) 20 dX8_copyEdges_18 rfl (Nat.le_of_ble_eq_true rfl) rfl ?_
    refine z_iconst (nI 0) 21 zki_0 dX8_copyEdges_20 rfl ?_
    refine z_istore (lv2 := [(9, .int (nI 0)), (7, .long v3), (0, .ref (b0 + x0)), (1, .int x1), (2, .int x2), (3, .long x3), (5, .ref (b0 + x5)), (6, .int x6)]) 23 dX8_copyEdges_21 rfl (Nat.le_of_ble_eq_true rfl) rfl ?_
    exact z_sub [2, 3, 4, 5, 6, 7, 1, 0] rfl (BX8_copyEdges_23 b0 self3 x0 x1 x2 x3 x5 x6 v3 hself3 zfu (nI 0) q2.2)
theorem BX8_copyEdges_3 (b0 : Nat) (x0 : Nat) (x1 : Int32) (x2 : Int32) (x3 : Int64) (x5 : Nat) (n : Nat) (x6 : Int32) (h : ZH) : Zr zv b0 YX8_copyEdges 4 3 [(0, .ref (b0 + x0)), (1, .int x1), (2, .int x2), (3, .long x3), (5, .ref (b0 + x5)), (6, .int x6)] [] h (zloop (lX8_copyEdges_3 x0 x1 x2 x3 x5) n (x6, h)) :=
  zloop_Zr (fun s => [(0, .ref (b0 + x0)), (1, .int x1), (2, .int x2), (3, .long x3), (5, .ref (b0 + x5)), (6, .int s.1)]) (fun _ => []) (fun s => s.2) (lX8_copyEdges_3 x0 x1 x2 x3 x5) (fun self hs s => KX8_copyEdges_3 b0 x0 x1 x2 x3 x5 self (fun y6 hh => hs (y6, hh)) s.1 s.2) n (x6, h)
def fX8_copyEdges (x0 : Nat) (x1 : Int32) (x2 : Int32) (x3 : Int64) (x5 : Nat) (h : ZH) : Option (ZH) :=
  if x0 < zn h ∧ zK h x0 = 8 then (zloop (lX8_copyEdges_3 x0 x1 x2 x3 x5) zfu ((nI 0), h)) else none
theorem kX8_copyEdges {x0 : Nat} {x1 : Int32} {x2 : Int32} {x3 : Int64} {x5 : Nat} {h : ZH} {x : ZH} (e : fX8_copyEdges x0 x1 x2 x3 x5 h = some x) : x0 < zn h ∧ zK h x0 = 8 := by
  unfold fX8_copyEdges at e
  exact zguard e
theorem mX8_copyEdges (b0 : Nat) (x0 : Nat) (x1 : Int32) (x2 : Int32) (x3 : Int64) (x5 : Nat) (h : ZH) : ZM zv b0 YX8_copyEdges 4 [.ref (b0 + x0), .int x1, .int x2, .long x3, .ref (b0 + x5)] h (fX8_copyEdges x0 x1 x2 x3 x5 h) := by
  unfold fX8_copyEdges
  refine ZM.of (by decide) rfl (Nat.le_of_ble_eq_true rfl) (fun _ => trivial) ?_
  refine z_sub (lv2 := [(0, .ref (b0 + x0)), (1, .int x1), (2, .int x2), (3, .long x3), (5, .ref (b0 + x5))]) [0, 1, 2, 3, 4] rfl ?_
  refine z_guard (fun _ => ?_)
  refine z_iconst (nI 0) 1 zki_0 dX8_copyEdges_0 rfl ?_
  refine z_istore (lv2 := [(6, .int (nI 0)), (0, .ref (b0 + x0)), (1, .int x1), (2, .int x2), (3, .long x3), (5, .ref (b0 + x5))]) 3 dX8_copyEdges_1 rfl (Nat.le_of_ble_eq_true rfl) rfl ?_
  exact z_sub [1, 2, 3, 4, 5, 0] rfl (BX8_copyEdges_3 b0 x0 x1 x2 x3 x5 zfu (nI 0) h)
-- X8_numberVertices
def bX8_numberVertices_34 (self5 : Int32 × Int32 × ZH → Option (ZH)) (x0 : Nat) (x1 : Int64) (x3 : Int32) (x4 : Int32) (h : ZH) : Option (ZH) :=
  self5 (x3, (x4 + (nI 1)), h)
theorem BX8_numberVertices_34 (b0 : Nat) (self5 : Int32 × Int32 × ZH → Option (ZH)) (x0 : Nat) (x1 : Int64) (x3 : Int32) (x4 : Int32) (h : ZH) (hself5 : ∀ (y3 : Int32) (y4 : Int32) (hh : ZH), Zr zv b0 YX8_numberVertices 1 5 [(0, .ref (b0 + x0)), (1, .long x1), (3, .int y3), (4, .int y4)] [] hh (self5 (y3, y4, hh))) : Zr zv b0 YX8_numberVertices 1 34 [(0, .ref (b0 + x0)), (1, .long x1), (3, .int x3), (4, .int x4)] [] h (bX8_numberVertices_34 self5 x0 x1 x3 x4 h) := by
  unfold bX8_numberVertices_34
  refine z_iinc (lv2 := [(4, .int (x4 + (nI 1))), (0, .ref (b0 + x0)), (1, .long x1), (3, .int x3)]) (nI 1) 37 3 dX8_numberVertices_34 rfl rfl zki_1 (Nat.le_of_ble_eq_true rfl) rfl ?_
  refine z_goto 5 dX8_numberVertices_37 (by decide) ?_
  exact z_sub [1, 2, 3, 0] rfl (hself5 x3 (x4 + (nI 1)) h)
def kX8_numberVertices_5 (x0 : Nat) (x1 : Int64) (self5 : Int32 × Int32 × ZH → Option (ZH)) (x3 : Int32) (x4 : Int32) (h : ZH) : Option (ZH) :=
  if (nI 64) ≤ x4 then (some h) else
  ((gR h 8 x0 1).bind fun v2 =>
  (sI h 14 v2 x4 x3).bind fun h3 =>
  if (lg_cmp ((jlshr x1 x4) &&& (lN 1)) (lN 0)) = 0 then (bX8_numberVertices_34 self5 x0 x1 x3 x4 h3) else
  (bX8_numberVertices_34 self5 x0 x1 (x3 + (nI 1)) x4 h3))
def lX8_numberVertices_5 (x0 : Nat) (x1 : Int64) : (Int32 × Int32 × ZH → Option (ZH)) → Int32 × Int32 × ZH → Option (ZH) := fun self s => kX8_numberVertices_5 x0 x1 self s.1 s.2.1 s.2.2
theorem KX8_numberVertices_5 (b0 : Nat) (x0 : Nat) (x1 : Int64) (self5 : Int32 × Int32 × ZH → Option (ZH)) (hself5 : ∀ (y3 : Int32) (y4 : Int32) (hh : ZH), Zr zv b0 YX8_numberVertices 1 5 [(0, .ref (b0 + x0)), (1, .long x1), (3, .int y3), (4, .int y4)] [] hh (self5 (y3, y4, hh))) (x3 : Int32) (x4 : Int32) (h : ZH) : Zr zv b0 YX8_numberVertices 1 5 [(0, .ref (b0 + x0)), (1, .long x1), (3, .int x3), (4, .int x4)] [] h (kX8_numberVertices_5 x0 x1 self5 x3 x4 h) := by
  unfold kX8_numberVertices_5
  refine z_iload 7 3 dX8_numberVertices_5 rfl rfl ?_
  refine z_bipush (nI 64) 9 zkb_64 dX8_numberVertices_7 rfl ?_
  refine z_icmp_ge 40 12 dX8_numberVertices_9 (by decide) rfl (fun c1 => ?_) (fun c1 => ?_)
  · exact z_return dX8_numberVertices_40 rfl
  · refine z_aload_n 13 0 dX8_numberVertices_12 rfl rfl ?_
    refine z_getR 16 zC8 (Nat.le_of_ble_eq_true rfl) rfl w_194 dX8_numberVertices_13 rfl (fun v2 _ => ?_)
    refine z_iload 18 3 dX8_numberVertices_16 rfl rfl ?_
    refine z_iload_n 19 2 dX8_numberVertices_18 rfl rfl ?_
    refine z_iastore 20 dX8_numberVertices_19 rfl (fun h3 _ => ?_)
    refine z_lload_n 21 1 dX8_numberVertices_20 rfl rfl ?_
    refine z_iload 23 3 dX8_numberVertices_21 rfl rfl ?_
    refine z_lshr 24 dX8_numberVertices_23 rfl ?_
    refine z_lconst (lN 1) 25 rfl dX8_numberVertices_24 rfl ?_
    refine z_land 26 dX8_numberVertices_25 rfl ?_
    refine z_lconst (lN 0) 27 rfl dX8_numberVertices_26 rfl ?_
    refine z_lcmp 28 dX8_numberVertices_27 rfl ?_
    refine z_if_eq 34 31 dX8_numberVertices_28 (by decide) rfl (fun c4 => ?_) (fun c4 => ?_)
    · exact z_sub [0, 1, 2, 3] rfl (BX8_numberVertices_34 b0 self5 x0 x1 x3 x4 h3 hself5)
    · refine z_iinc (lv2 := [(3, .int (x3 + (nI 1))), (0, .ref (b0 + x0)), (1, .long x1), (4, .int x4)]) (nI 1) 34 2 dX8_numberVertices_31 rfl rfl zki_1 (Nat.le_of_ble_eq_true rfl) rfl ?_
      exact z_sub [1, 2, 0, 3] rfl (BX8_numberVertices_34 b0 self5 x0 x1 (x3 + (nI 1)) x4 h3 hself5)
theorem BX8_numberVertices_5 (b0 : Nat) (x0 : Nat) (x1 : Int64) (n : Nat) (x3 : Int32) (x4 : Int32) (h : ZH) : Zr zv b0 YX8_numberVertices 1 5 [(0, .ref (b0 + x0)), (1, .long x1), (3, .int x3), (4, .int x4)] [] h (zloop (lX8_numberVertices_5 x0 x1) n (x3, x4, h)) :=
  zloop_Zr (fun s => [(0, .ref (b0 + x0)), (1, .long x1), (3, .int s.1), (4, .int s.2.1)]) (fun _ => []) (fun s => s.2.2) (lX8_numberVertices_5 x0 x1) (fun self hs s => KX8_numberVertices_5 b0 x0 x1 self (fun y3 y4 hh => hs (y3, y4, hh)) s.1 s.2.1 s.2.2) n (x3, x4, h)
def fX8_numberVertices (x0 : Nat) (x1 : Int64) (h : ZH) : Option (ZH) :=
  if x0 < zn h ∧ zK h x0 = 8 then (zloop (lX8_numberVertices_5 x0 x1) zfu ((nI 0), (nI 0), h)) else none
theorem kX8_numberVertices {x0 : Nat} {x1 : Int64} {h : ZH} {x : ZH} (e : fX8_numberVertices x0 x1 h = some x) : x0 < zn h ∧ zK h x0 = 8 := by
  unfold fX8_numberVertices at e
  exact zguard e
theorem mX8_numberVertices (b0 : Nat) (x0 : Nat) (x1 : Int64) (h : ZH) : ZM zv b0 YX8_numberVertices 1 [.ref (b0 + x0), .long x1] h (fX8_numberVertices x0 x1 h) := by
  unfold fX8_numberVertices
  refine ZM.of (by decide) rfl (Nat.le_of_ble_eq_true rfl) (fun _ => trivial) ?_
  refine z_sub (lv2 := [(0, .ref (b0 + x0)), (1, .long x1)]) [0, 1] rfl ?_
  refine z_guard (fun _ => ?_)
  refine z_iconst (nI 0) 1 zki_0 dX8_numberVertices_0 rfl ?_
  refine z_istore_n (lv2 := [(3, .int (nI 0)), (0, .ref (b0 + x0)), (1, .long x1)]) 2 dX8_numberVertices_1 rfl (Nat.le_of_ble_eq_true rfl) rfl ?_
  refine z_iconst (nI 0) 3 zki_0 dX8_numberVertices_2 rfl ?_
  refine z_istore (lv2 := [(4, .int (nI 0)), (3, .int (nI 0)), (0, .ref (b0 + x0)), (1, .long x1)]) 5 dX8_numberVertices_3 rfl (Nat.le_of_ble_eq_true rfl) rfl ?_
  exact z_sub [2, 3, 1, 0] rfl (BX8_numberVertices_5 b0 x0 x1 zfu (nI 0) (nI 0) h)
-- X8_successors
def kX8_successors_5 (x0 : Nat) (x1 : Int32) (self5 : Int64 × Int32 × ZH → Option (Int64 × ZH)) (x2 : Int64) (x4 : Int32) (h : ZH) : Option (Int64 × ZH) :=
  if (nI 4) ≤ x4 then (some (x2, h)) else
  ((fX8_row x0 x1 x4 h).bind fun q2 =>
  zl (x2 ||| q2.1) fun v3 =>
  self5 (v3, (x4 + (nI 1)), q2.2))
def lX8_successors_5 (x0 : Nat) (x1 : Int32) : (Int64 × Int32 × ZH → Option (Int64 × ZH)) → Int64 × Int32 × ZH → Option (Int64 × ZH) := fun self s => kX8_successors_5 x0 x1 self s.1 s.2.1 s.2.2
theorem KX8_successors_5 (b0 : Nat) (x0 : Nat) (x1 : Int32) (self5 : Int64 × Int32 × ZH → Option (Int64 × ZH)) (hself5 : ∀ (y2 : Int64) (y4 : Int32) (hh : ZH), Zr zj b0 YX8_successors 3 5 [(0, .ref (b0 + x0)), (1, .int x1), (2, .long y2), (4, .int y4)] [] hh (self5 (y2, y4, hh))) (x2 : Int64) (x4 : Int32) (h : ZH) : Zr zj b0 YX8_successors 3 5 [(0, .ref (b0 + x0)), (1, .int x1), (2, .long x2), (4, .int x4)] [] h (kX8_successors_5 x0 x1 self5 x2 x4 h) := by
  unfold kX8_successors_5
  refine z_iload 7 3 dX8_successors_5 rfl rfl ?_
  refine z_iconst (nI 4) 8 zki_4 dX8_successors_7 rfl ?_
  refine z_icmp_ge 27 11 dX8_successors_8 (by decide) rfl (fun c1 => ?_) (fun c1 => ?_)
  · refine z_lload_n 28 2 dX8_successors_27 rfl rfl ?_
    exact z_lreturn dX8_successors_28 rfl
  · refine z_lload_n 12 2 dX8_successors_11 rfl rfl ?_
    refine z_aload_n 13 0 dX8_successors_12 rfl rfl ?_
    refine z_iload_n 14 1 dX8_successors_13 rfl rfl ?_
    refine z_iload 16 3 dX8_successors_14 rfl rfl ?_
    refine z_callVj 19 (mX8_row b0 x0 x1 x4 h) zyX8_row rfl w_854 (ci := 8) rfl (Nat.le_of_ble_eq_true rfl) (fun _ e9 => kX8_row e9) wm_yX8_row ws_yX8_row (Nat.le_of_ble_eq_true rfl) rfl (Nat.le_of_ble_eq_true rfl) dX8_successors_16 rfl (fun q2 => ?_)
    refine z_lor 20 dX8_successors_19 rfl ?_
    refine z_letJ (fun v3 _ => ?_)
    refine z_lstore_n (lv2 := [(2, .long v3), (0, .ref (b0 + x0)), (1, .int x1), (4, .int x4)]) 21 dX8_successors_20 rfl (Nat.le_of_ble_eq_true rfl) rfl ?_
    refine z_iinc (lv2 := [(4, .int (x4 + (nI 1))), (2, .long v3), (0, .ref (b0 + x0)), (1, .int x1)]) (nI 1) 24 3 dX8_successors_21 rfl rfl zki_1 (Nat.le_of_ble_eq_true rfl) rfl ?_
    refine z_goto 5 dX8_successors_24 (by decide) ?_
    exact z_sub [2, 3, 1, 0] rfl (hself5 v3 (x4 + (nI 1)) q2.2)
theorem BX8_successors_5 (b0 : Nat) (x0 : Nat) (x1 : Int32) (n : Nat) (x2 : Int64) (x4 : Int32) (h : ZH) : Zr zj b0 YX8_successors 3 5 [(0, .ref (b0 + x0)), (1, .int x1), (2, .long x2), (4, .int x4)] [] h (zloop (lX8_successors_5 x0 x1) n (x2, x4, h)) :=
  zloop_Zr (fun s => [(0, .ref (b0 + x0)), (1, .int x1), (2, .long s.1), (4, .int s.2.1)]) (fun _ => []) (fun s => s.2.2) (lX8_successors_5 x0 x1) (fun self hs s => KX8_successors_5 b0 x0 x1 self (fun y2 y4 hh => hs (y2, y4, hh)) s.1 s.2.1 s.2.2) n (x2, x4, h)
def fX8_successors (x0 : Nat) (x1 : Int32) (h : ZH) : Option (Int64 × ZH) :=
  if x0 < zn h ∧ zK h x0 = 8 then (zloop (lX8_successors_5 x0 x1) zfu ((lN 0), (nI 0), h)) else none
theorem kX8_successors {x0 : Nat} {x1 : Int32} {h : ZH} {x : Int64 × ZH} (e : fX8_successors x0 x1 h = some x) : x0 < zn h ∧ zK h x0 = 8 := by
  unfold fX8_successors at e
  exact zguard e
theorem mX8_successors (b0 : Nat) (x0 : Nat) (x1 : Int32) (h : ZH) : ZM zj b0 YX8_successors 3 [.ref (b0 + x0), .int x1] h (fX8_successors x0 x1 h) := by
  unfold fX8_successors
  refine ZM.of (by decide) rfl (Nat.le_of_ble_eq_true rfl) (fun _ => trivial) ?_
  refine z_sub (lv2 := [(0, .ref (b0 + x0)), (1, .int x1)]) [0, 1] rfl ?_
  refine z_guard (fun _ => ?_)
  refine z_lconst (lN 0) 1 rfl dX8_successors_0 rfl ?_
  refine z_lstore_n (lv2 := [(2, .long (lN 0)), (0, .ref (b0 + x0)), (1, .int x1)]) 2 dX8_successors_1 rfl (Nat.le_of_ble_eq_true rfl) rfl ?_
  refine z_iconst (nI 0) 3 zki_0 dX8_successors_2 rfl ?_
  refine z_istore (lv2 := [(4, .int (nI 0)), (2, .long (lN 0)), (0, .ref (b0 + x0)), (1, .int x1)]) 5 dX8_successors_3 rfl (Nat.le_of_ble_eq_true rfl) rfl ?_
  exact z_sub [2, 3, 1, 0] rfl (BX8_successors_5 b0 x0 x1 zfu (lN 0) (nI 0) h)
-- X8_trim
def bX8_trim_125 (x1 : Int64) (h : ZH) : Option (Int64 × ZH) :=
  some (x1, h)
theorem BX8_trim_125 (b0 : Nat) (x1 : Int64) (h : ZH) : Zr zj b0 YX8_trim 4 125 [(1, .long x1)] [] h (bX8_trim_125 x1 h) := by
  unfold bX8_trim_125
  refine z_lload_n 126 0 dX8_trim_125 rfl rfl ?_
  exact z_lreturn dX8_trim_126 rfl
def bX8_trim_115 (self9 : Int64 × Int32 × Int32 × ZH → Option (Int64 × ZH)) (x0 : Nat) (x4 : Int32) (x9 : Int64) (t0 : Int32) (h : ZH) : Option (Int64 × ZH) :=
  self9 (x9, t0, (x4 + (nI 1)), h)
theorem BX8_trim_115 (b0 : Nat) (self9 : Int64 × Int32 × Int32 × ZH → Option (Int64 × ZH)) (x0 : Nat) (x4 : Int32) (x9 : Int64) (t0 : Int32) (h : ZH) (hself9 : ∀ (y1 : Int64) (y3 : Int32) (y4 : Int32) (hh : ZH), Zr zj b0 YX8_trim 4 9 [(0, .ref (b0 + x0)), (1, .long y1), (3, .int y3), (4, .int y4)] [] hh (self9 (y1, y3, y4, hh))) : Zr zj b0 YX8_trim 4 115 [(0, .ref (b0 + x0)), (4, .int x4), (9, .long x9)] [.int t0] h (bX8_trim_115 self9 x0 x4 x9 t0 h) := by
  unfold bX8_trim_115
  refine z_istore_n (lv2 := [(3, .int t0), (0, .ref (b0 + x0)), (4, .int x4), (9, .long x9)]) 116 dX8_trim_115 rfl (Nat.le_of_ble_eq_true rfl) rfl ?_
  refine z_lload 118 3 dX8_trim_116 rfl rfl ?_
  refine z_lstore_n (lv2 := [(1, .long x9), (3, .int t0), (0, .ref (b0 + x0)), (4, .int x4), (9, .long x9)]) 119 dX8_trim_118 rfl (Nat.le_of_ble_eq_true rfl) rfl ?_
  refine z_iinc (lv2 := [(4, .int (x4 + (nI 1))), (1, .long x9), (3, .int t0), (0, .ref (b0 + x0)), (9, .long x9)]) (nI 1) 122 3 dX8_trim_119 rfl rfl zki_1 (Nat.le_of_ble_eq_true rfl) rfl ?_
  refine z_goto 9 dX8_trim_122 (by decide) ?_
  exact z_sub [3, 1, 2, 0] rfl (hself9 x9 t0 (x4 + (nI 1)) h)
def bX8_trim_85 (self9 : Int64 × Int32 × Int32 × ZH → Option (Int64 × ZH)) (self29 : Int64 × Int64 × Int32 × ZH → Option (Int64 × ZH)) (x0 : Nat) (x1 : Int64) (x4 : Int32) (x5 : Int64) (x9 : Int32) (t0 : Int64) (t1 : Int64) (h : ZH) : Option (Int64 × ZH) :=
  zl (t1 ||| t0) fun v1 =>
  self29 (x5, v1, (x9 + (nI 1)), h)
theorem BX8_trim_85 (b0 : Nat) (self9 : Int64 × Int32 × Int32 × ZH → Option (Int64 × ZH)) (self29 : Int64 × Int64 × Int32 × ZH → Option (Int64 × ZH)) (x0 : Nat) (x1 : Int64) (x4 : Int32) (x5 : Int64) (x9 : Int32) (t0 : Int64) (t1 : Int64) (h : ZH) (hself9 : ∀ (y1 : Int64) (y3 : Int32) (y4 : Int32) (hh : ZH), Zr zj b0 YX8_trim 4 9 [(0, .ref (b0 + x0)), (1, .long y1), (3, .int y3), (4, .int y4)] [] hh (self9 (y1, y3, y4, hh))) (hself29 : ∀ (y5 : Int64) (y7 : Int64) (y9 : Int32) (hh : ZH), Zr zj b0 YX8_trim 4 29 [(0, .ref (b0 + x0)), (1, .long x1), (4, .int x4), (5, .long y5), (7, .long y7), (9, .int y9)] [] hh (self29 (y5, y7, y9, hh))) : Zr zj b0 YX8_trim 4 85 [(0, .ref (b0 + x0)), (1, .long x1), (4, .int x4), (5, .long x5), (9, .int x9)] [.long t0, .long t1] h (bX8_trim_85 self9 self29 x0 x1 x4 x5 x9 t0 t1 h) := by
  unfold bX8_trim_85
  refine z_lor 86 dX8_trim_85 rfl ?_
  refine z_letJ (fun v1 _ => ?_)
  refine z_lstore (lv2 := [(7, .long v1), (0, .ref (b0 + x0)), (1, .long x1), (4, .int x4), (5, .long x5), (9, .int x9)]) 88 dX8_trim_86 rfl (Nat.le_of_ble_eq_true rfl) rfl ?_
  refine z_iinc (lv2 := [(9, .int (x9 + (nI 1))), (7, .long v1), (0, .ref (b0 + x0)), (1, .long x1), (4, .int x4), (5, .long x5)]) (nI 1) 91 5 dX8_trim_88 rfl rfl zki_1 (Nat.le_of_ble_eq_true rfl) rfl ?_
  refine z_goto 29 dX8_trim_91 (by decide) ?_
  exact z_sub [2, 3, 4, 5, 1, 0] rfl (hself29 x5 v1 (x9 + (nI 1)) h)
def bX8_trim_59 (self9 : Int64 × Int32 × Int32 × ZH → Option (Int64 × ZH)) (self29 : Int64 × Int64 × Int32 × ZH → Option (Int64 × ZH)) (x0 : Nat) (x1 : Int64) (x4 : Int32) (x5 : Int64) (x7 : Int64) (x9 : Int32) (t0 : Int64) (h : ZH) : Option (Int64 × ZH) :=
  zl (x5 ||| t0) fun v1 =>
  if (lg_cmp t0 (lN 0)) = 0 then (bX8_trim_85 self9 self29 x0 x1 x4 v1 x9 (lN 0) x7 h) else
  (bX8_trim_85 self9 self29 x0 x1 x4 v1 x9 (jlshl (lN 1) x9) x7 h)
theorem BX8_trim_59 (b0 : Nat) (self9 : Int64 × Int32 × Int32 × ZH → Option (Int64 × ZH)) (self29 : Int64 × Int64 × Int32 × ZH → Option (Int64 × ZH)) (x0 : Nat) (x1 : Int64) (x4 : Int32) (x5 : Int64) (x7 : Int64) (x9 : Int32) (t0 : Int64) (h : ZH) (hself9 : ∀ (y1 : Int64) (y3 : Int32) (y4 : Int32) (hh : ZH), Zr zj b0 YX8_trim 4 9 [(0, .ref (b0 + x0)), (1, .long y1), (3, .int y3), (4, .int y4)] [] hh (self9 (y1, y3, y4, hh))) (hself29 : ∀ (y5 : Int64) (y7 : Int64) (y9 : Int32) (hh : ZH), Zr zj b0 YX8_trim 4 29 [(0, .ref (b0 + x0)), (1, .long x1), (4, .int x4), (5, .long y5), (7, .long y7), (9, .int y9)] [] hh (self29 (y5, y7, y9, hh))) : Zr zj b0 YX8_trim 4 59 [(0, .ref (b0 + x0)), (1, .long x1), (4, .int x4), (5, .long x5), (7, .long x7), (9, .int x9)] [.long t0] h (bX8_trim_59 self9 self29 x0 x1 x4 x5 x7 x9 t0 h) := by
  unfold bX8_trim_59
  refine z_lstore (lv2 := [(10, .long t0), (0, .ref (b0 + x0)), (1, .long x1), (4, .int x4), (5, .long x5), (7, .long x7), (9, .int x9)]) 61 dX8_trim_59 rfl (Nat.le_of_ble_eq_true rfl) rfl ?_
  refine z_lload 63 4 dX8_trim_61 rfl rfl ?_
  refine z_lload 65 0 dX8_trim_63 rfl rfl ?_
  refine z_lor 66 dX8_trim_65 rfl ?_
  refine z_letJ (fun v1 _ => ?_)
  refine z_lstore (lv2 := [(5, .long v1), (10, .long t0), (0, .ref (b0 + x0)), (1, .long x1), (4, .int x4), (7, .long x7), (9, .int x9)]) 68 dX8_trim_66 rfl (Nat.le_of_ble_eq_true rfl) rfl ?_
  refine z_lload 70 5 dX8_trim_68 rfl rfl ?_
  refine z_lload 72 1 dX8_trim_70 rfl rfl ?_
  refine z_lconst (lN 0) 73 rfl dX8_trim_72 rfl ?_
  refine z_lcmp 74 dX8_trim_73 rfl ?_
  refine z_if_eq 84 77 dX8_trim_74 (by decide) rfl (fun c2 => ?_) (fun c2 => ?_)
  · refine z_lconst (lN 0) 85 rfl dX8_trim_84 rfl ?_
    exact z_sub [2, 3, 4, 0, 6] rfl (BX8_trim_85 b0 self9 self29 x0 x1 x4 v1 x9 (lN 0) x7 h hself9 hself29)
  · refine z_lconst (lN 1) 78 rfl dX8_trim_77 rfl ?_
    refine z_iload 80 6 dX8_trim_78 rfl rfl ?_
    refine z_lshl 81 dX8_trim_80 rfl ?_
    refine z_goto 85 dX8_trim_81 (by decide) ?_
    exact z_sub [2, 3, 4, 0, 6] rfl (BX8_trim_85 b0 self9 self29 x0 x1 x4 v1 x9 (jlshl (lN 1) x9) x7 h hself9 hself29)
def kX8_trim_29 (self9 : Int64 × Int32 × Int32 × ZH → Option (Int64 × ZH)) (x0 : Nat) (x1 : Int64) (x4 : Int32) (self29 : Int64 × Int64 × Int32 × ZH → Option (Int64 × ZH)) (x5 : Int64) (x7 : Int64) (x9 : Int32) (h : ZH) : Option (Int64 × ZH) :=
  if (nI 64) ≤ x9 then (zl ((x1 &&& x5) &&& x7) fun v2 =>
  if (lg_cmp v2 x1) = 0 then (bX8_trim_115 self9 x0 x4 v2 (nI 0) h) else
  (bX8_trim_115 self9 x0 x4 v2 (nI 1) h)) else
  (if (lg_cmp ((jlshr x1 x9) &&& (lN 1)) (lN 0)) = 0 then (bX8_trim_59 self9 self29 x0 x1 x4 x5 x7 x9 (lN 0) h) else
  ((fX8_successors x0 x9 h).bind fun q5 =>
  bX8_trim_59 self9 self29 x0 x1 x4 x5 x7 x9 (q5.1 &&& x1) q5.2))
def lX8_trim_29 (self9 : Int64 × Int32 × Int32 × ZH → Option (Int64 × ZH)) (x0 : Nat) (x1 : Int64) (x4 : Int32) : (Int64 × Int64 × Int32 × ZH → Option (Int64 × ZH)) → Int64 × Int64 × Int32 × ZH → Option (Int64 × ZH) := fun self s => kX8_trim_29 self9 x0 x1 x4 self s.1 s.2.1 s.2.2.1 s.2.2.2
theorem KX8_trim_29 (b0 : Nat) (self9 : Int64 × Int32 × Int32 × ZH → Option (Int64 × ZH)) (x0 : Nat) (x1 : Int64) (x4 : Int32) (hself9 : ∀ (y1 : Int64) (y3 : Int32) (y4 : Int32) (hh : ZH), Zr zj b0 YX8_trim 4 9 [(0, .ref (b0 + x0)), (1, .long y1), (3, .int y3), (4, .int y4)] [] hh (self9 (y1, y3, y4, hh))) (self29 : Int64 × Int64 × Int32 × ZH → Option (Int64 × ZH)) (hself29 : ∀ (y5 : Int64) (y7 : Int64) (y9 : Int32) (hh : ZH), Zr zj b0 YX8_trim 4 29 [(0, .ref (b0 + x0)), (1, .long x1), (4, .int x4), (5, .long y5), (7, .long y7), (9, .int y9)] [] hh (self29 (y5, y7, y9, hh))) (x5 : Int64) (x7 : Int64) (x9 : Int32) (h : ZH) : Zr zj b0 YX8_trim 4 29 [(0, .ref (b0 + x0)), (1, .long x1), (4, .int x4), (5, .long x5), (7, .long x7), (9, .int x9)] [] h (kX8_trim_29 self9 x0 x1 x4 self29 x5 x7 x9 h) := by
  unfold kX8_trim_29
  refine z_iload 31 5 dX8_trim_29 rfl rfl ?_
  refine z_bipush (nI 64) 33 zkb_64 dX8_trim_31 rfl ?_
  refine z_icmp_ge 94 36 dX8_trim_33 (by decide) rfl (fun c1 => ?_) (fun c1 => ?_)
  · refine z_lload_n 95 1 dX8_trim_94 rfl rfl ?_
    refine z_lload 97 3 dX8_trim_95 rfl rfl ?_
    refine z_land 98 dX8_trim_97 rfl ?_
    refine z_lload 100 4 dX8_trim_98 rfl rfl ?_
    refine z_land 101 dX8_trim_100 rfl ?_
    refine z_letJ (fun v2 _ => ?_)
    refine z_lstore (lv2 := [(9, .long v2), (0, .ref (b0 + x0)), (1, .long x1), (4, .int x4), (5, .long x5), (7, .long x7)]) 103 dX8_trim_101 rfl (Nat.le_of_ble_eq_true rfl) rfl ?_
    refine z_lload 105 0 dX8_trim_103 rfl rfl ?_
    refine z_lload_n 106 2 dX8_trim_105 rfl rfl ?_
    refine z_lcmp 107 dX8_trim_106 rfl ?_
    refine z_if_eq 114 110 dX8_trim_107 (by decide) rfl (fun c3 => ?_) (fun c3 => ?_)
    · refine z_iconst (nI 0) 115 zki_0 dX8_trim_114 rfl ?_
      exact z_sub [1, 3, 0] rfl (BX8_trim_115 b0 self9 x0 x4 v2 (nI 0) h hself9)
    · refine z_iconst (nI 1) 111 zki_1 dX8_trim_110 rfl ?_
      refine z_goto 115 dX8_trim_111 (by decide) ?_
      exact z_sub [1, 3, 0] rfl (BX8_trim_115 b0 self9 x0 x4 v2 (nI 1) h hself9)
  · refine z_lload_n 37 1 dX8_trim_36 rfl rfl ?_
    refine z_iload 39 5 dX8_trim_37 rfl rfl ?_
    refine z_lshr 40 dX8_trim_39 rfl ?_
    refine z_lconst (lN 1) 41 rfl dX8_trim_40 rfl ?_
    refine z_land 42 dX8_trim_41 rfl ?_
    refine z_lconst (lN 0) 43 rfl dX8_trim_42 rfl ?_
    refine z_lcmp 44 dX8_trim_43 rfl ?_
    refine z_if_eq 58 47 dX8_trim_44 (by decide) rfl (fun c4 => ?_) (fun c4 => ?_)
    · refine z_lconst (lN 0) 59 rfl dX8_trim_58 rfl ?_
      exact z_sub [0, 1, 2, 3, 4, 5] rfl (BX8_trim_59 b0 self9 self29 x0 x1 x4 x5 x7 x9 (lN 0) h hself9 hself29)
    · refine z_aload_n 48 0 dX8_trim_47 rfl rfl ?_
      refine z_iload 50 5 dX8_trim_48 rfl rfl ?_
      refine z_callVj 53 (mX8_successors b0 x0 x9 h) zyX8_successors rfl w_850 (ci := 8) rfl (Nat.le_of_ble_eq_true rfl) (fun _ e9 => kX8_successors e9) wm_yX8_successors ws_yX8_successors (Nat.le_of_ble_eq_true rfl) rfl (Nat.le_of_ble_eq_true rfl) dX8_trim_50 rfl (fun q5 => ?_)
      refine z_lload_n 54 1 dX8_trim_53 rfl rfl ?_
      refine z_land 55 dX8_trim_54 rfl ?_
      refine z_goto 59 dX8_trim_55 (by decide) ?_
      exact z_sub [0, 1, 2, 3, 4, 5] rfl (BX8_trim_59 b0 self9 self29 x0 x1 x4 x5 x7 x9 (q5.1 &&& x1) q5.2 hself9 hself29)
theorem BX8_trim_29 (b0 : Nat) (self9 : Int64 × Int32 × Int32 × ZH → Option (Int64 × ZH)) (x0 : Nat) (x1 : Int64) (x4 : Int32) (hself9 : ∀ (y1 : Int64) (y3 : Int32) (y4 : Int32) (hh : ZH), Zr zj b0 YX8_trim 4 9 [(0, .ref (b0 + x0)), (1, .long y1), (3, .int y3), (4, .int y4)] [] hh (self9 (y1, y3, y4, hh))) (n : Nat) (x5 : Int64) (x7 : Int64) (x9 : Int32) (h : ZH) : Zr zj b0 YX8_trim 4 29 [(0, .ref (b0 + x0)), (1, .long x1), (4, .int x4), (5, .long x5), (7, .long x7), (9, .int x9)] [] h (zloop (lX8_trim_29 self9 x0 x1 x4) n (x5, x7, x9, h)) :=
  zloop_Zr (fun s => [(0, .ref (b0 + x0)), (1, .long x1), (4, .int x4), (5, .long s.1), (7, .long s.2.1), (9, .int s.2.2.1)]) (fun _ => []) (fun s => s.2.2.2) (lX8_trim_29 self9 x0 x1 x4) (fun self hs s => KX8_trim_29 b0 self9 x0 x1 x4 hself9 self (fun y5 y7 y9 hh => hs (y5, y7, y9, hh)) s.1 s.2.1 s.2.2.1 s.2.2.2) n (x5, x7, x9, h)
def kX8_trim_9 (x0 : Nat) (self9 : Int64 × Int32 × Int32 × ZH → Option (Int64 × ZH)) (x1 : Int64) (x3 : Int32) (x4 : Int32) (h : ZH) : Option (Int64 × ZH) :=
  if (nI 64) < x4 then (bX8_trim_125 x1 h) else
  (if x3 = 0 then (bX8_trim_125 x1 h) else
  (zloop (lX8_trim_29 self9 x0 x1 x4) zfu ((lN 0), (lN 0), (nI 0), h)))
def lX8_trim_9 (x0 : Nat) : (Int64 × Int32 × Int32 × ZH → Option (Int64 × ZH)) → Int64 × Int32 × Int32 × ZH → Option (Int64 × ZH) := fun self s => kX8_trim_9 x0 self s.1 s.2.1 s.2.2.1 s.2.2.2
theorem KX8_trim_9 (b0 : Nat) (x0 : Nat) (self9 : Int64 × Int32 × Int32 × ZH → Option (Int64 × ZH)) (hself9 : ∀ (y1 : Int64) (y3 : Int32) (y4 : Int32) (hh : ZH), Zr zj b0 YX8_trim 4 9 [(0, .ref (b0 + x0)), (1, .long y1), (3, .int y3), (4, .int y4)] [] hh (self9 (y1, y3, y4, hh))) (x1 : Int64) (x3 : Int32) (x4 : Int32) (h : ZH) : Zr zj b0 YX8_trim 4 9 [(0, .ref (b0 + x0)), (1, .long x1), (3, .int x3), (4, .int x4)] [] h (kX8_trim_9 x0 self9 x1 x3 x4 h) := by
  unfold kX8_trim_9
  refine z_iload 11 3 dX8_trim_9 rfl rfl ?_
  refine z_bipush (nI 64) 13 zkb_64 dX8_trim_11 rfl ?_
  refine z_icmp_gt 125 16 dX8_trim_13 (by decide) rfl (fun c1 => ?_) (fun c1 => ?_)
  · exact z_sub [1] rfl (BX8_trim_125 b0 x1 h )
  · refine z_iload_n 17 2 dX8_trim_16 rfl rfl ?_
    refine z_if_eq 125 20 dX8_trim_17 (by decide) rfl (fun c2 => ?_) (fun c2 => ?_)
    · exact z_sub [1] rfl (BX8_trim_125 b0 x1 h )
    · refine z_lconst (lN 0) 21 rfl dX8_trim_20 rfl ?_
      refine z_lstore (lv2 := [(5, .long (lN 0)), (0, .ref (b0 + x0)), (1, .long x1), (3, .int x3), (4, .int x4)]) 23 dX8_trim_21 rfl (Nat.le_of_ble_eq_true rfl) rfl ?_
      refine z_lconst (lN 0) 24 rfl dX8_trim_23 rfl ?_
      refine z_lstore (lv2 := [(7, .long (lN 0)), (5, .long (lN 0)), (0, .ref (b0 + x0)), (1, .long x1), (3, .int x3), (4, .int x4)]) 26 dX8_trim_24 rfl (Nat.le_of_ble_eq_true rfl) rfl ?_
      refine z_iconst (nI 0) 27 zki_0 dX8_trim_26 rfl ?_
      refine z_istore (lv2 := [(9, .int (nI 0)), (7, .long (lN 0)), (5, .long (lN 0)), (0, .ref (b0 + x0)), (1, .long x1), (3, .int x3), (4, .int x4)]) 29 dX8_trim_27 rfl (Nat.le_of_ble_eq_true rfl) rfl ?_
      exact z_sub [3, 4, 6, 2, 1, 0] rfl (BX8_trim_29 b0 self9 x0 x1 x4 hself9 zfu (lN 0) (lN 0) (nI 0) h)
theorem BX8_trim_9 (b0 : Nat) (x0 : Nat) (n : Nat) (x1 : Int64) (x3 : Int32) (x4 : Int32) (h : ZH) : Zr zj b0 YX8_trim 4 9 [(0, .ref (b0 + x0)), (1, .long x1), (3, .int x3), (4, .int x4)] [] h (zloop (lX8_trim_9 x0) n (x1, x3, x4, h)) :=
  zloop_Zr (fun s => [(0, .ref (b0 + x0)), (1, .long s.1), (3, .int s.2.1), (4, .int s.2.2.1)]) (fun _ => []) (fun s => s.2.2.2) (lX8_trim_9 x0) (fun self hs s => KX8_trim_9 b0 x0 self (fun y1 y3 y4 hh => hs (y1, y3, y4, hh)) s.1 s.2.1 s.2.2.1 s.2.2.2) n (x1, x3, x4, h)
def fX8_trim (x0 : Nat) (h : ZH) : Option (Int64 × ZH) :=
  if x0 < zn h ∧ zK h x0 = 8 then (zloop (lX8_trim_9 x0) zfu ((-1 : Int64), (nI 1), (nI 0), h)) else none
theorem kX8_trim {x0 : Nat} {h : ZH} {x : Int64 × ZH} (e : fX8_trim x0 h = some x) : x0 < zn h ∧ zK h x0 = 8 := by
  unfold fX8_trim at e
  exact zguard e
theorem mX8_trim (b0 : Nat) (x0 : Nat) (h : ZH) : ZM zj b0 YX8_trim 4 [.ref (b0 + x0)] h (fX8_trim x0 h) := by
  unfold fX8_trim
  refine ZM.of (by decide) rfl (Nat.le_of_ble_eq_true rfl) (fun _ => trivial) ?_
  refine z_sub (lv2 := [(0, .ref (b0 + x0))]) [0] rfl ?_
  refine z_guard (fun _ => ?_)
  refine z_ldc2 3 w_849 dX8_trim_0 rfl ?_
  refine z_lstore_n (lv2 := [(1, .long (-1 : Int64)), (0, .ref (b0 + x0))]) 4 dX8_trim_3 rfl (Nat.le_of_ble_eq_true rfl) rfl ?_
  refine z_iconst (nI 1) 5 zki_1 dX8_trim_4 rfl ?_
  refine z_istore_n (lv2 := [(3, .int (nI 1)), (1, .long (-1 : Int64)), (0, .ref (b0 + x0))]) 6 dX8_trim_5 rfl (Nat.le_of_ble_eq_true rfl) rfl ?_
  refine z_iconst (nI 0) 7 zki_0 dX8_trim_6 rfl ?_
  refine z_istore (lv2 := [(4, .int (nI 0)), (3, .int (nI 1)), (1, .long (-1 : Int64)), (0, .ref (b0 + x0))]) 9 dX8_trim_7 rfl (Nat.le_of_ble_eq_true rfl) rfl ?_
  exact z_sub [3, 2, 1, 0] rfl (BX8_trim_9 b0 x0 zfu (-1 : Int64) (nI 1) (nI 0) h)
-- X8_compressCore
def bX8_compressCore_69 (x4 : Int32) (h : ZH) : Option (Int32 × ZH) :=
  some (x4, h)
theorem BX8_compressCore_69 (b0 : Nat) (x4 : Int32) (h : ZH) : Zr zi b0 YX8_compressCore 5 69 [(4, .int x4)] [] h (bX8_compressCore_69 x4 h) := by
  unfold bX8_compressCore_69
  refine z_iload 71 0 dX8_compressCore_69 rfl rfl ?_
  exact z_ireturn dX8_compressCore_71 rfl
def bX8_compressCore_63 (self30 : Int32 × ZH → Option (Int32 × ZH)) (x0 : Nat) (x1 : Nat) (x2 : Int64) (x4 : Int32) (x5 : Int32) (h : ZH) : Option (Int32 × ZH) :=
  self30 ((x5 + (nI 1)), h)
theorem BX8_compressCore_63 (b0 : Nat) (self30 : Int32 × ZH → Option (Int32 × ZH)) (x0 : Nat) (x1 : Nat) (x2 : Int64) (x4 : Int32) (x5 : Int32) (h : ZH) (hself30 : ∀ (y5 : Int32) (hh : ZH), Zr zi b0 YX8_compressCore 5 30 [(0, .ref (b0 + x0)), (1, .ref (b0 + x1)), (2, .long x2), (4, .int x4), (5, .int y5)] [] hh (self30 (y5, hh))) : Zr zi b0 YX8_compressCore 5 63 [(0, .ref (b0 + x0)), (1, .ref (b0 + x1)), (2, .long x2), (4, .int x4), (5, .int x5)] [] h (bX8_compressCore_63 self30 x0 x1 x2 x4 x5 h) := by
  unfold bX8_compressCore_63
  refine z_iinc (lv2 := [(5, .int (x5 + (nI 1))), (0, .ref (b0 + x0)), (1, .ref (b0 + x1)), (2, .long x2), (4, .int x4)]) (nI 1) 66 4 dX8_compressCore_63 rfl rfl zki_1 (Nat.le_of_ble_eq_true rfl) rfl ?_
  refine z_goto 30 dX8_compressCore_66 (by decide) ?_
  exact z_sub [1, 2, 3, 4, 0] rfl (hself30 (x5 + (nI 1)) h)
def kX8_compressCore_30 (x0 : Nat) (x1 : Nat) (x2 : Int64) (x4 : Int32) (self30 : Int32 × ZH → Option (Int32 × ZH)) (x5 : Int32) (h : ZH) : Option (Int32 × ZH) :=
  if (nI 64) ≤ x5 then (bX8_compressCore_69 x4 h) else
  (if (lg_cmp ((jlshr x2 x5) &&& (lN 1)) (lN 0)) = 0 then (bX8_compressCore_63 self30 x0 x1 x2 x4 x5 h) else
  ((gR h 8 x0 1).bind fun v3 =>
  (lI h 14 v3 x5).bind fun v4 =>
  (fX8_copyEdges x0 x5 v4 x2 x1 h).bind fun h5 =>
  bX8_compressCore_63 self30 x0 x1 x2 x4 x5 h5))
def lX8_compressCore_30 (x0 : Nat) (x1 : Nat) (x2 : Int64) (x4 : Int32) : (Int32 × ZH → Option (Int32 × ZH)) → Int32 × ZH → Option (Int32 × ZH) := fun self s => kX8_compressCore_30 x0 x1 x2 x4 self s.1 s.2
theorem KX8_compressCore_30 (b0 : Nat) (x0 : Nat) (x1 : Nat) (x2 : Int64) (x4 : Int32) (self30 : Int32 × ZH → Option (Int32 × ZH)) (hself30 : ∀ (y5 : Int32) (hh : ZH), Zr zi b0 YX8_compressCore 5 30 [(0, .ref (b0 + x0)), (1, .ref (b0 + x1)), (2, .long x2), (4, .int x4), (5, .int y5)] [] hh (self30 (y5, hh))) (x5 : Int32) (h : ZH) : Zr zi b0 YX8_compressCore 5 30 [(0, .ref (b0 + x0)), (1, .ref (b0 + x1)), (2, .long x2), (4, .int x4), (5, .int x5)] [] h (kX8_compressCore_30 x0 x1 x2 x4 self30 x5 h) := by
  unfold kX8_compressCore_30
  refine z_iload 32 4 dX8_compressCore_30 rfl rfl ?_
  refine z_bipush (nI 64) 34 zkb_64 dX8_compressCore_32 rfl ?_
  refine z_icmp_ge 69 37 dX8_compressCore_34 (by decide) rfl (fun c1 => ?_) (fun c1 => ?_)
  · exact z_sub [3] rfl (BX8_compressCore_69 b0 x4 h )
  · refine z_lload_n 38 2 dX8_compressCore_37 rfl rfl ?_
    refine z_iload 40 4 dX8_compressCore_38 rfl rfl ?_
    refine z_lshr 41 dX8_compressCore_40 rfl ?_
    refine z_lconst (lN 1) 42 rfl dX8_compressCore_41 rfl ?_
    refine z_land 43 dX8_compressCore_42 rfl ?_
    refine z_lconst (lN 0) 44 rfl dX8_compressCore_43 rfl ?_
    refine z_lcmp 45 dX8_compressCore_44 rfl ?_
    refine z_if_eq 63 48 dX8_compressCore_45 (by decide) rfl (fun c2 => ?_) (fun c2 => ?_)
    · exact z_sub [0, 1, 2, 3, 4] rfl (BX8_compressCore_63 b0 self30 x0 x1 x2 x4 x5 h hself30)
    · refine z_aload_n 49 0 dX8_compressCore_48 rfl rfl ?_
      refine z_iload 51 4 dX8_compressCore_49 rfl rfl ?_
      refine z_aload_n 52 0 dX8_compressCore_51 rfl rfl ?_
      refine z_getR 55 zC8 (Nat.le_of_ble_eq_true rfl) rfl w_194 dX8_compressCore_52 rfl (fun v3 _ => ?_)
      refine z_iload 57 4 dX8_compressCore_55 rfl rfl ?_
      refine z_iaload 58 dX8_compressCore_57 rfl (fun v4 _ => ?_)
      refine z_lload_n 59 2 dX8_compressCore_58 rfl rfl ?_
      refine z_aload_n 60 1 dX8_compressCore_59 rfl rfl ?_
      refine z_callVv 63 (mX8_copyEdges b0 x0 x5 v4 x2 x1 h) zyX8_copyEdges rfl w_869 (ci := 8) rfl (Nat.le_of_ble_eq_true rfl) (fun _ e9 => kX8_copyEdges e9) wm_yX8_copyEdges ws_yX8_copyEdges (Nat.le_of_ble_eq_true rfl) rfl (Nat.le_of_ble_eq_true rfl) dX8_compressCore_60 rfl (fun h5 => ?_)
      exact z_sub [0, 1, 2, 3, 4] rfl (BX8_compressCore_63 b0 self30 x0 x1 x2 x4 x5 h5 hself30)
theorem BX8_compressCore_30 (b0 : Nat) (x0 : Nat) (x1 : Nat) (x2 : Int64) (x4 : Int32) (n : Nat) (x5 : Int32) (h : ZH) : Zr zi b0 YX8_compressCore 5 30 [(0, .ref (b0 + x0)), (1, .ref (b0 + x1)), (2, .long x2), (4, .int x4), (5, .int x5)] [] h (zloop (lX8_compressCore_30 x0 x1 x2 x4) n (x5, h)) :=
  zloop_Zr (fun s => [(0, .ref (b0 + x0)), (1, .ref (b0 + x1)), (2, .long x2), (4, .int x4), (5, .int s.1)]) (fun _ => []) (fun s => s.2) (lX8_compressCore_30 x0 x1 x2 x4) (fun self hs s => KX8_compressCore_30 b0 x0 x1 x2 x4 self (fun y5 hh => hs (y5, hh)) s.1 s.2) n (x5, h)
def fX8_compressCore (x0 : Nat) (x1 : Nat) (h : ZH) : Option (Int32 × ZH) :=
  if x0 < zn h ∧ zK h x0 = 8 then ((fX8_trim x0 h).bind fun q1 =>
  (fJ13_bitCount_95d88 q1.1 q1.2).bind fun q2 =>
  if (nI 8) < q2.1 then (bX8_compressCore_69 q2.1 q2.2) else
  ((fX8_numberVertices x0 q1.1 q2.2).bind fun h4 =>
  (fX1_clear x1 h4).bind fun h5 =>
  zloop (lX8_compressCore_30 x0 x1 q1.1 q2.1) zfu ((nI 0), h5))) else none
theorem kX8_compressCore {x0 : Nat} {x1 : Nat} {h : ZH} {x : Int32 × ZH} (e : fX8_compressCore x0 x1 h = some x) : x0 < zn h ∧ zK h x0 = 8 := by
  unfold fX8_compressCore at e
  exact zguard e
theorem mX8_compressCore (b0 : Nat) (x0 : Nat) (x1 : Nat) (h : ZH) : ZM zi b0 YX8_compressCore 5 [.ref (b0 + x0), .ref (b0 + x1)] h (fX8_compressCore x0 x1 h) := by
  unfold fX8_compressCore
  refine ZM.of (by decide) rfl (Nat.le_of_ble_eq_true rfl) (fun _ => trivial) ?_
  refine z_sub (lv2 := [(0, .ref (b0 + x0)), (1, .ref (b0 + x1))]) [0, 1] rfl ?_
  refine z_guard (fun _ => ?_)
  refine z_aload_n 1 0 dX8_compressCore_0 rfl rfl ?_
  refine z_callVj 4 (mX8_trim b0 x0 h) zyX8_trim rfl w_845 (ci := 8) rfl (Nat.le_of_ble_eq_true rfl) (fun _ e9 => kX8_trim e9) wm_yX8_trim ws_yX8_trim (Nat.le_of_ble_eq_true rfl) rfl (Nat.le_of_ble_eq_true rfl) dX8_compressCore_1 rfl (fun q1 => ?_)
  refine z_lstore_n (lv2 := [(2, .long q1.1), (0, .ref (b0 + x0)), (1, .ref (b0 + x1))]) 5 dX8_compressCore_4 rfl (Nat.le_of_ble_eq_true rfl) rfl ?_
  refine z_lload_n 6 0 dX8_compressCore_5 rfl rfl ?_
  refine z_callSi 9 (mJ13_bitCount_95d88 b0 q1.1 q1.2) zyJ13_bitCount_95d88 rfl w_858 wt_yJ13_bitCount_95d88 (Nat.le_of_ble_eq_true rfl) rfl (Nat.le_of_ble_eq_true rfl) dX8_compressCore_6 rfl (fun q2 => ?_)
  refine z_istore (lv2 := [(4, .int q2.1), (2, .long q1.1), (0, .ref (b0 + x0)), (1, .ref (b0 + x1))]) 11 dX8_compressCore_9 rfl (Nat.le_of_ble_eq_true rfl) rfl ?_
  refine z_iload 13 0 dX8_compressCore_11 rfl rfl ?_
  refine z_bipush (nI 8) 15 zkb_8 dX8_compressCore_13 rfl ?_
  refine z_icmp_gt 69 18 dX8_compressCore_15 (by decide) rfl (fun c3 => ?_) (fun c3 => ?_)
  · exact z_sub [0] rfl (BX8_compressCore_69 b0 q2.1 q2.2 )
  · refine z_aload_n 19 2 dX8_compressCore_18 rfl rfl ?_
    refine z_lload_n 20 1 dX8_compressCore_19 rfl rfl ?_
    refine z_callVv 23 (mX8_numberVertices b0 x0 q1.1 q2.2) zyX8_numberVertices rfl w_864 (ci := 8) rfl (Nat.le_of_ble_eq_true rfl) (fun _ e9 => kX8_numberVertices e9) wm_yX8_numberVertices ws_yX8_numberVertices (Nat.le_of_ble_eq_true rfl) rfl (Nat.le_of_ble_eq_true rfl) dX8_compressCore_20 rfl (fun h4 => ?_)
    refine z_aload_n 24 3 dX8_compressCore_23 rfl rfl ?_
    refine z_callVv 27 (mX1_clear b0 x1 h4) zyX1_clear rfl w_868 (ci := 1) rfl (Nat.le_of_ble_eq_true rfl) (fun _ e9 => kX1_clear e9) wm_yX1_clear ws_yX1_clear (Nat.le_of_ble_eq_true rfl) rfl (Nat.le_of_ble_eq_true rfl) dX8_compressCore_24 rfl (fun h5 => ?_)
    refine z_iconst (nI 0) 28 zki_0 dX8_compressCore_27 rfl ?_
    refine z_istore (lv2 := [(5, .int (nI 0)), (4, .int q2.1), (2, .long q1.1), (0, .ref (b0 + x0)), (1, .ref (b0 + x1))]) 30 dX8_compressCore_28 rfl (Nat.le_of_ble_eq_true rfl) rfl ?_
    exact z_sub [3, 4, 2, 1, 0] rfl (BX8_compressCore_30 b0 x0 x1 q1.1 q2.1 zfu (nI 0) h5)
-- X9_init
def fX9_init (x0 : Nat) (h : ZH) : Option (ZH) :=
  if x0 < zn h ∧ zK h x0 = 9 then ((zala h 15 (nI 7936)).bind fun q1 =>
  (pR q1.2 9 x0 0 q1.1).bind fun h2 =>
  (pI h2 9 x0 1 (nI 255)).bind fun h3 =>
  some h3) else none
theorem kX9_init {x0 : Nat} {h : ZH} {x : ZH} (e : fX9_init x0 h = some x) : x0 < zn h ∧ zK h x0 = 9 := by
  unfold fX9_init at e
  exact zguard e
theorem mX9_init (b0 : Nat) (x0 : Nat) (h : ZH) : ZM zv b0 YX9_init 2 [.ref (b0 + x0)] h (fX9_init x0 h) := by
  unfold fX9_init
  refine ZM.of (by decide) rfl (Nat.le_of_ble_eq_true rfl) (fun _ => trivial) ?_
  refine z_sub (lv2 := [(0, .ref (b0 + x0))]) [0] rfl ?_
  refine z_guard (fun _ => ?_)
  refine z_aload_n 1 0 dX9_init_0 rfl rfl ?_
  refine z_objInit 4 w_105 wm_Lib_objectInit wc_Lib_objectInit (Nat.le_of_ble_eq_true rfl) (Nat.le_of_ble_eq_true rfl) dX9_init_1 rfl ?_
  refine z_aload_n 5 0 dX9_init_4 rfl rfl ?_
  refine z_sipush (nI 7936) 8 zks_7936 dX9_init_5 rfl ?_
  refine z_newA_long 10 wa_long dX9_init_8 rfl (fun q1 => ?_)
  refine z_putF 13 zC9 (Nat.le_of_ble_eq_true rfl) rfl rfl rfl rfl rfl (Or.inl ⟨_, rfl⟩) w_106 dX9_init_10 rfl (fun h2 _ => ?_)
  refine z_aload_n 14 0 dX9_init_13 rfl rfl ?_
  refine z_sipush (nI 255) 17 zks_255 dX9_init_14 rfl ?_
  refine z_putI 20 zC9 (Nat.le_of_ble_eq_true rfl) rfl rfl rfl w_107 dX9_init_17 rfl (fun h3 _ => ?_)
  exact z_return dX9_init_20 rfl
-- X9_count
def bX9_count_47 (t0 : Int64) (h : ZH) : Option (Int64 × ZH) :=
  some (t0, h)
theorem BX9_count_47 (b0 : Nat) (t0 : Int64) (h : ZH) : Zr zj b0 YX9_count 1 47 [] [.long t0] h (bX9_count_47 t0 h) := by
  unfold bX9_count_47
  exact z_lreturn dX9_count_47 rfl
def bX9_count_26 (x0 : Nat) (x1 : Int32) (x2 : Int32) (t0 : Int32) (h : ZH) : Option (Int64 × ZH) :=
  if t0 = 0 then (bX9_count_47 (lN 0) h) else
  ((gR h 9 x0 0).bind fun v2 =>
  (lJ h v2 (((nI 256) * x2) + x1)).bind fun v3 =>
  bX9_count_47 v3 h)
theorem BX9_count_26 (b0 : Nat) (x0 : Nat) (x1 : Int32) (x2 : Int32) (t0 : Int32) (h : ZH) : Zr zj b0 YX9_count 1 26 [(0, .ref (b0 + x0)), (1, .int x1), (2, .int x2)] [.int t0] h (bX9_count_26 x0 x1 x2 t0 h) := by
  unfold bX9_count_26
  refine z_istore_n (lv2 := [(3, .int t0), (0, .ref (b0 + x0)), (1, .int x1), (2, .int x2)]) 27 dX9_count_26 rfl (Nat.le_of_ble_eq_true rfl) rfl ?_
  refine z_iload_n 28 0 dX9_count_27 rfl rfl ?_
  refine z_if_eq 46 31 dX9_count_28 (by decide) rfl (fun c1 => ?_) (fun c1 => ?_)
  · refine z_lconst (lN 0) 47 rfl dX9_count_46 rfl ?_
    exact z_sub [] rfl (BX9_count_47 b0 (lN 0) h )
  · refine z_aload_n 32 1 dX9_count_31 rfl rfl ?_
    refine z_getR 35 zC9 (Nat.le_of_ble_eq_true rfl) rfl w_106 dX9_count_32 rfl (fun v2 _ => ?_)
    refine z_sipush (nI 256) 38 zks_256 dX9_count_35 rfl ?_
    refine z_iload_n 39 3 dX9_count_38 rfl rfl ?_
    refine z_imul 40 dX9_count_39 rfl ?_
    refine z_iload_n 41 2 dX9_count_40 rfl rfl ?_
    refine z_iadd 42 dX9_count_41 rfl ?_
    refine z_laload 43 dX9_count_42 rfl (fun v3 _ => ?_)
    refine z_goto 47 dX9_count_43 (by decide) ?_
    exact z_sub [] rfl (BX9_count_47 b0 v3 h )
def bX9_count_25 (x0 : Nat) (x1 : Int32) (x2 : Int32) (h : ZH) : Option (Int64 × ZH) :=
  bX9_count_26 x0 x1 x2 (nI 0) h
theorem BX9_count_25 (b0 : Nat) (x0 : Nat) (x1 : Int32) (x2 : Int32) (h : ZH) : Zr zj b0 YX9_count 1 25 [(0, .ref (b0 + x0)), (1, .int x1), (2, .int x2)] [] h (bX9_count_25 x0 x1 x2 h) := by
  unfold bX9_count_25
  refine z_iconst (nI 0) 26 zki_0 dX9_count_25 rfl ?_
  exact z_sub [0, 1, 2] rfl (BX9_count_26 b0 x0 x1 x2 (nI 0) h )
def fX9_count (x0 : Nat) (x1 : Int32) (x2 : Int32) (h : ZH) : Option (Int64 × ZH) :=
  if x0 < zn h ∧ zK h x0 = 9 then (if x1 < 0 then (bX9_count_25 x0 x1 x2 h) else
  (if (nI 255) ≤ x1 then (bX9_count_25 x0 x1 x2 h) else
  (if x2 < 0 then (bX9_count_25 x0 x1 x2 h) else
  (if (nI 30) < x2 then (bX9_count_25 x0 x1 x2 h) else
  (bX9_count_26 x0 x1 x2 (nI 1) h))))) else none
theorem kX9_count {x0 : Nat} {x1 : Int32} {x2 : Int32} {h : ZH} {x : Int64 × ZH} (e : fX9_count x0 x1 x2 h = some x) : x0 < zn h ∧ zK h x0 = 9 := by
  unfold fX9_count at e
  exact zguard e
theorem mX9_count (b0 : Nat) (x0 : Nat) (x1 : Int32) (x2 : Int32) (h : ZH) : ZM zj b0 YX9_count 1 [.ref (b0 + x0), .int x1, .int x2] h (fX9_count x0 x1 x2 h) := by
  unfold fX9_count
  refine ZM.of (by decide) rfl (Nat.le_of_ble_eq_true rfl) (fun _ => trivial) ?_
  refine z_sub (lv2 := [(0, .ref (b0 + x0)), (1, .int x1), (2, .int x2)]) [0, 1, 2] rfl ?_
  refine z_guard (fun _ => ?_)
  refine z_iload_n 1 1 dX9_count_0 rfl rfl ?_
  refine z_if_lt 25 4 dX9_count_1 (by decide) rfl (fun c1 => ?_) (fun c1 => ?_)
  · exact z_sub [0, 1, 2] rfl (BX9_count_25 b0 x0 x1 x2 h )
  · refine z_iload_n 5 1 dX9_count_4 rfl rfl ?_
    refine z_sipush (nI 255) 8 zks_255 dX9_count_5 rfl ?_
    refine z_icmp_ge 25 11 dX9_count_8 (by decide) rfl (fun c2 => ?_) (fun c2 => ?_)
    · exact z_sub [0, 1, 2] rfl (BX9_count_25 b0 x0 x1 x2 h )
    · refine z_iload_n 12 2 dX9_count_11 rfl rfl ?_
      refine z_if_lt 25 15 dX9_count_12 (by decide) rfl (fun c3 => ?_) (fun c3 => ?_)
      · exact z_sub [0, 1, 2] rfl (BX9_count_25 b0 x0 x1 x2 h )
      · refine z_iload_n 16 2 dX9_count_15 rfl rfl ?_
        refine z_bipush (nI 30) 18 zkb_30 dX9_count_16 rfl ?_
        refine z_icmp_gt 25 21 dX9_count_18 (by decide) rfl (fun c4 => ?_) (fun c4 => ?_)
        · exact z_sub [0, 1, 2] rfl (BX9_count_25 b0 x0 x1 x2 h )
        · refine z_iconst (nI 1) 22 zki_1 dX9_count_21 rfl ?_
          refine z_goto 26 dX9_count_22 (by decide) ?_
          exact z_sub [0, 1, 2] rfl (BX9_count_26 b0 x0 x1 x2 (nI 1) h )
-- X9_fill
def bX9_fill_136 (h : ZH) : Option (ZH) :=
  some h
theorem BX9_fill_136 (b0 : Nat) (h : ZH) : Zr zv b0 YX9_fill 2 136 [] [] h (bX9_fill_136 h) := by
  unfold bX9_fill_136
  exact z_return dX9_fill_136 rfl
def bX9_fill_130 (self40 : Int32 × ZH → Option (ZH)) (x0 : Nat) (x1 : Nat) (x2 : Int32) (x3 : Int32) (h : ZH) : Option (ZH) :=
  self40 ((x3 + (nI 1)), h)
theorem BX9_fill_130 (b0 : Nat) (self40 : Int32 × ZH → Option (ZH)) (x0 : Nat) (x1 : Nat) (x2 : Int32) (x3 : Int32) (h : ZH) (hself40 : ∀ (y3 : Int32) (hh : ZH), Zr zv b0 YX9_fill 2 40 [(0, .ref (b0 + x0)), (1, .ref (b0 + x1)), (2, .int x2), (3, .int y3)] [] hh (self40 (y3, hh))) : Zr zv b0 YX9_fill 2 130 [(0, .ref (b0 + x0)), (1, .ref (b0 + x1)), (2, .int x2), (3, .int x3)] [] h (bX9_fill_130 self40 x0 x1 x2 x3 h) := by
  unfold bX9_fill_130
  refine z_iinc (lv2 := [(3, .int (x3 + (nI 1))), (0, .ref (b0 + x0)), (1, .ref (b0 + x1)), (2, .int x2)]) (nI 1) 133 3 dX9_fill_130 rfl rfl zki_1 (Nat.le_of_ble_eq_true rfl) rfl ?_
  refine z_goto 40 dX9_fill_133 (by decide) ?_
  exact z_sub [1, 2, 3, 0] rfl (hself40 (x3 + (nI 1)) h)
def kX9_fill_77 (self40 : Int32 × ZH → Option (ZH)) (self54 : Int32 × ZH → Option (ZH)) (x0 : Nat) (x1 : Nat) (x2 : Int32) (x3 : Int32) (x4 : Int32) (self77 : Int64 × Int32 × ZH → Option (ZH)) (x5 : Int64) (x7 : Int32) (h : ZH) : Option (ZH) :=
  if (nI 4) ≤ x7 then ((gR h 9 x0 0).bind fun v2 =>
  (sJ h v2 (((nI 256) * x3) + x4) x5).bind fun h3 =>
  self54 ((x4 + (nI 1)), h3)) else
  ((fX6_after x1 x4 x7 h).bind fun q4 =>
  (fX9_count x0 q4.1 (x3 - (nI 1)) q4.2).bind fun q5 =>
  zl (x5 + q5.1) fun v6 =>
  self77 (v6, (x7 + (nI 1)), q5.2))
def lX9_fill_77 (self40 : Int32 × ZH → Option (ZH)) (self54 : Int32 × ZH → Option (ZH)) (x0 : Nat) (x1 : Nat) (x2 : Int32) (x3 : Int32) (x4 : Int32) : (Int64 × Int32 × ZH → Option (ZH)) → Int64 × Int32 × ZH → Option (ZH) := fun self s => kX9_fill_77 self40 self54 x0 x1 x2 x3 x4 self s.1 s.2.1 s.2.2
theorem KX9_fill_77 (b0 : Nat) (self40 : Int32 × ZH → Option (ZH)) (self54 : Int32 × ZH → Option (ZH)) (x0 : Nat) (x1 : Nat) (x2 : Int32) (x3 : Int32) (x4 : Int32) (hself40 : ∀ (y3 : Int32) (hh : ZH), Zr zv b0 YX9_fill 2 40 [(0, .ref (b0 + x0)), (1, .ref (b0 + x1)), (2, .int x2), (3, .int y3)] [] hh (self40 (y3, hh))) (hself54 : ∀ (y4 : Int32) (hh : ZH), Zr zv b0 YX9_fill 2 54 [(0, .ref (b0 + x0)), (1, .ref (b0 + x1)), (2, .int x2), (3, .int x3), (4, .int y4)] [] hh (self54 (y4, hh))) (self77 : Int64 × Int32 × ZH → Option (ZH)) (hself77 : ∀ (y5 : Int64) (y7 : Int32) (hh : ZH), Zr zv b0 YX9_fill 2 77 [(0, .ref (b0 + x0)), (1, .ref (b0 + x1)), (2, .int x2), (3, .int x3), (4, .int x4), (5, .long y5), (7, .int y7)] [] hh (self77 (y5, y7, hh))) (x5 : Int64) (x7 : Int32) (h : ZH) : Zr zv b0 YX9_fill 2 77 [(0, .ref (b0 + x0)), (1, .ref (b0 + x1)), (2, .int x2), (3, .int x3), (4, .int x4), (5, .long x5), (7, .int x7)] [] h (kX9_fill_77 self40 self54 x0 x1 x2 x3 x4 self77 x5 x7 h) := by
  unfold kX9_fill_77
  refine z_iload 79 6 dX9_fill_77 rfl rfl ?_
  refine z_iconst (nI 4) 80 zki_4 dX9_fill_79 rfl ?_
  refine z_icmp_ge 109 83 dX9_fill_80 (by decide) rfl (fun c1 => ?_) (fun c1 => ?_)
  · refine z_aload_n 110 0 dX9_fill_109 rfl rfl ?_
    refine z_getR 113 zC9 (Nat.le_of_ble_eq_true rfl) rfl w_106 dX9_fill_110 rfl (fun v2 _ => ?_)
    refine z_sipush (nI 256) 116 zks_256 dX9_fill_113 rfl ?_
    refine z_iload_n 117 3 dX9_fill_116 rfl rfl ?_
    refine z_imul 118 dX9_fill_117 rfl ?_
    refine z_iload 120 4 dX9_fill_118 rfl rfl ?_
    refine z_iadd 121 dX9_fill_120 rfl ?_
    refine z_lload 123 5 dX9_fill_121 rfl rfl ?_
    refine z_lastore 124 dX9_fill_123 rfl (fun h3 _ => ?_)
    refine z_iinc (lv2 := [(4, .int (x4 + (nI 1))), (0, .ref (b0 + x0)), (1, .ref (b0 + x1)), (2, .int x2), (3, .int x3), (5, .long x5), (7, .int x7)]) (nI 1) 127 4 dX9_fill_124 rfl rfl zki_1 (Nat.le_of_ble_eq_true rfl) rfl ?_
    refine z_goto 54 dX9_fill_127 (by decide) ?_
    exact z_sub [1, 2, 3, 4, 0] rfl (hself54 (x4 + (nI 1)) h3)
  · refine z_lload 85 5 dX9_fill_83 rfl rfl ?_
    refine z_aload_n 86 0 dX9_fill_85 rfl rfl ?_
    refine z_aload_n 87 1 dX9_fill_86 rfl rfl ?_
    refine z_iload 89 4 dX9_fill_87 rfl rfl ?_
    refine z_iload 91 6 dX9_fill_89 rfl rfl ?_
    refine z_callVi 94 (mX6_after b0 x1 x4 x7 h) zyX6_after rfl w_503 (ci := 6) rfl (Nat.le_of_ble_eq_true rfl) (fun _ e9 => kX6_after e9) wm_yX6_after ws_yX6_after (Nat.le_of_ble_eq_true rfl) rfl (Nat.le_of_ble_eq_true rfl) dX9_fill_91 rfl (fun q4 => ?_)
    refine z_iload_n 95 3 dX9_fill_94 rfl rfl ?_
    refine z_iconst (nI 1) 96 zki_1 dX9_fill_95 rfl ?_
    refine z_isub 97 dX9_fill_96 rfl ?_
    refine z_callVj 100 (mX9_count b0 x0 q4.1 (x3 - (nI 1)) q4.2) zyX9_count rfl w_507 (ci := 9) rfl (Nat.le_of_ble_eq_true rfl) (fun _ e9 => kX9_count e9) wm_yX9_count ws_yX9_count (Nat.le_of_ble_eq_true rfl) rfl (Nat.le_of_ble_eq_true rfl) dX9_fill_97 rfl (fun q5 => ?_)
    refine z_ladd 101 dX9_fill_100 rfl ?_
    refine z_letJ (fun v6 _ => ?_)
    refine z_lstore (lv2 := [(5, .long v6), (0, .ref (b0 + x0)), (1, .ref (b0 + x1)), (2, .int x2), (3, .int x3), (4, .int x4), (7, .int x7)]) 103 dX9_fill_101 rfl (Nat.le_of_ble_eq_true rfl) rfl ?_
    refine z_iinc (lv2 := [(7, .int (x7 + (nI 1))), (5, .long v6), (0, .ref (b0 + x0)), (1, .ref (b0 + x1)), (2, .int x2), (3, .int x3), (4, .int x4)]) (nI 1) 106 6 dX9_fill_103 rfl rfl zki_1 (Nat.le_of_ble_eq_true rfl) rfl ?_
    refine z_goto 77 dX9_fill_106 (by decide) ?_
    exact z_sub [2, 3, 4, 5, 6, 1, 0] rfl (hself77 v6 (x7 + (nI 1)) q5.2)
theorem BX9_fill_77 (b0 : Nat) (self40 : Int32 × ZH → Option (ZH)) (self54 : Int32 × ZH → Option (ZH)) (x0 : Nat) (x1 : Nat) (x2 : Int32) (x3 : Int32) (x4 : Int32) (hself40 : ∀ (y3 : Int32) (hh : ZH), Zr zv b0 YX9_fill 2 40 [(0, .ref (b0 + x0)), (1, .ref (b0 + x1)), (2, .int x2), (3, .int y3)] [] hh (self40 (y3, hh))) (hself54 : ∀ (y4 : Int32) (hh : ZH), Zr zv b0 YX9_fill 2 54 [(0, .ref (b0 + x0)), (1, .ref (b0 + x1)), (2, .int x2), (3, .int x3), (4, .int y4)] [] hh (self54 (y4, hh))) (n : Nat) (x5 : Int64) (x7 : Int32) (h : ZH) : Zr zv b0 YX9_fill 2 77 [(0, .ref (b0 + x0)), (1, .ref (b0 + x1)), (2, .int x2), (3, .int x3), (4, .int x4), (5, .long x5), (7, .int x7)] [] h (zloop (lX9_fill_77 self40 self54 x0 x1 x2 x3 x4) n (x5, x7, h)) :=
  zloop_Zr (fun s => [(0, .ref (b0 + x0)), (1, .ref (b0 + x1)), (2, .int x2), (3, .int x3), (4, .int x4), (5, .long s.1), (7, .int s.2.1)]) (fun _ => []) (fun s => s.2.2) (lX9_fill_77 self40 self54 x0 x1 x2 x3 x4) (fun self hs s => KX9_fill_77 b0 self40 self54 x0 x1 x2 x3 x4 hself40 hself54 self (fun y5 y7 hh => hs (y5, y7, hh)) s.1 s.2.1 s.2.2) n (x5, x7, h)
def kX9_fill_54 (self40 : Int32 × ZH → Option (ZH)) (x0 : Nat) (x1 : Nat) (x2 : Int32) (x3 : Int32) (self54 : Int32 × ZH → Option (ZH)) (x4 : Int32) (h : ZH) : Option (ZH) :=
  (fX6_size x1 h).bind fun q1 =>
  if q1.1 ≤ x4 then (bX9_fill_130 self40 x0 x1 x2 x3 q1.2) else
  (if (nI 255) ≤ x4 then (bX9_fill_130 self40 x0 x1 x2 x3 q1.2) else
  (zloop (lX9_fill_77 self40 self54 x0 x1 x2 x3 x4) zfu ((lN 0), (nI 0), q1.2)))
def lX9_fill_54 (self40 : Int32 × ZH → Option (ZH)) (x0 : Nat) (x1 : Nat) (x2 : Int32) (x3 : Int32) : (Int32 × ZH → Option (ZH)) → Int32 × ZH → Option (ZH) := fun self s => kX9_fill_54 self40 x0 x1 x2 x3 self s.1 s.2
theorem KX9_fill_54 (b0 : Nat) (self40 : Int32 × ZH → Option (ZH)) (x0 : Nat) (x1 : Nat) (x2 : Int32) (x3 : Int32) (hself40 : ∀ (y3 : Int32) (hh : ZH), Zr zv b0 YX9_fill 2 40 [(0, .ref (b0 + x0)), (1, .ref (b0 + x1)), (2, .int x2), (3, .int y3)] [] hh (self40 (y3, hh))) (self54 : Int32 × ZH → Option (ZH)) (hself54 : ∀ (y4 : Int32) (hh : ZH), Zr zv b0 YX9_fill 2 54 [(0, .ref (b0 + x0)), (1, .ref (b0 + x1)), (2, .int x2), (3, .int x3), (4, .int y4)] [] hh (self54 (y4, hh))) (x4 : Int32) (h : ZH) : Zr zv b0 YX9_fill 2 54 [(0, .ref (b0 + x0)), (1, .ref (b0 + x1)), (2, .int x2), (3, .int x3), (4, .int x4)] [] h (kX9_fill_54 self40 x0 x1 x2 x3 self54 x4 h) := by
  unfold kX9_fill_54
  refine z_iload 56 4 dX9_fill_54 rfl rfl ?_
  refine z_aload_n 57 1 dX9_fill_56 rfl rfl ?_
  refine z_callVi 60 (mX6_size b0 x1 h) zyX6_size rfl w_499 (ci := 6) rfl (Nat.le_of_ble_eq_true rfl) (fun _ e9 => kX6_size e9) wm_yX6_size ws_yX6_size (Nat.le_of_ble_eq_true rfl) rfl (Nat.le_of_ble_eq_true rfl) dX9_fill_57 rfl (fun q1 => ?_)
  refine z_icmp_ge 130 63 dX9_fill_60 (by decide) rfl (fun c2 => ?_) (fun c2 => ?_)
  · exact z_sub [0, 1, 2, 3] rfl (BX9_fill_130 b0 self40 x0 x1 x2 x3 q1.2 hself40)
  · refine z_iload 65 4 dX9_fill_63 rfl rfl ?_
    refine z_sipush (nI 255) 68 zks_255 dX9_fill_65 rfl ?_
    refine z_icmp_ge 130 71 dX9_fill_68 (by decide) rfl (fun c3 => ?_) (fun c3 => ?_)
    · exact z_sub [0, 1, 2, 3] rfl (BX9_fill_130 b0 self40 x0 x1 x2 x3 q1.2 hself40)
    · refine z_lconst (lN 0) 72 rfl dX9_fill_71 rfl ?_
      refine z_lstore (lv2 := [(5, .long (lN 0)), (0, .ref (b0 + x0)), (1, .ref (b0 + x1)), (2, .int x2), (3, .int x3), (4, .int x4)]) 74 dX9_fill_72 rfl (Nat.le_of_ble_eq_true rfl) rfl ?_
      refine z_iconst (nI 0) 75 zki_0 dX9_fill_74 rfl ?_
      refine z_istore (lv2 := [(7, .int (nI 0)), (5, .long (lN 0)), (0, .ref (b0 + x0)), (1, .ref (b0 + x1)), (2, .int x2), (3, .int x3), (4, .int x4)]) 77 dX9_fill_75 rfl (Nat.le_of_ble_eq_true rfl) rfl ?_
      exact z_sub [2, 3, 4, 5, 6, 1, 0] rfl (BX9_fill_77 b0 self40 self54 x0 x1 x2 x3 x4 hself40 hself54 zfu (lN 0) (nI 0) q1.2)
theorem BX9_fill_54 (b0 : Nat) (self40 : Int32 × ZH → Option (ZH)) (x0 : Nat) (x1 : Nat) (x2 : Int32) (x3 : Int32) (hself40 : ∀ (y3 : Int32) (hh : ZH), Zr zv b0 YX9_fill 2 40 [(0, .ref (b0 + x0)), (1, .ref (b0 + x1)), (2, .int x2), (3, .int y3)] [] hh (self40 (y3, hh))) (n : Nat) (x4 : Int32) (h : ZH) : Zr zv b0 YX9_fill 2 54 [(0, .ref (b0 + x0)), (1, .ref (b0 + x1)), (2, .int x2), (3, .int x3), (4, .int x4)] [] h (zloop (lX9_fill_54 self40 x0 x1 x2 x3) n (x4, h)) :=
  zloop_Zr (fun s => [(0, .ref (b0 + x0)), (1, .ref (b0 + x1)), (2, .int x2), (3, .int x3), (4, .int s.1)]) (fun _ => []) (fun s => s.2) (lX9_fill_54 self40 x0 x1 x2 x3) (fun self hs s => KX9_fill_54 b0 self40 x0 x1 x2 x3 hself40 self (fun y4 hh => hs (y4, hh)) s.1 s.2) n (x4, h)
def kX9_fill_40 (x0 : Nat) (x1 : Nat) (x2 : Int32) (self40 : Int32 × ZH → Option (ZH)) (x3 : Int32) (h : ZH) : Option (ZH) :=
  if x2 < x3 then (bX9_fill_136 h) else
  (if (nI 30) < x3 then (bX9_fill_136 h) else
  (zloop (lX9_fill_54 self40 x0 x1 x2 x3) zfu ((nI 0), h)))
def lX9_fill_40 (x0 : Nat) (x1 : Nat) (x2 : Int32) : (Int32 × ZH → Option (ZH)) → Int32 × ZH → Option (ZH) := fun self s => kX9_fill_40 x0 x1 x2 self s.1 s.2
theorem KX9_fill_40 (b0 : Nat) (x0 : Nat) (x1 : Nat) (x2 : Int32) (self40 : Int32 × ZH → Option (ZH)) (hself40 : ∀ (y3 : Int32) (hh : ZH), Zr zv b0 YX9_fill 2 40 [(0, .ref (b0 + x0)), (1, .ref (b0 + x1)), (2, .int x2), (3, .int y3)] [] hh (self40 (y3, hh))) (x3 : Int32) (h : ZH) : Zr zv b0 YX9_fill 2 40 [(0, .ref (b0 + x0)), (1, .ref (b0 + x1)), (2, .int x2), (3, .int x3)] [] h (kX9_fill_40 x0 x1 x2 self40 x3 h) := by
  unfold kX9_fill_40
  refine z_iload_n 41 3 dX9_fill_40 rfl rfl ?_
  refine z_iload_n 42 2 dX9_fill_41 rfl rfl ?_
  refine z_icmp_gt 136 45 dX9_fill_42 (by decide) rfl (fun c1 => ?_) (fun c1 => ?_)
  · exact z_sub [] rfl (BX9_fill_136 b0 h )
  · refine z_iload_n 46 3 dX9_fill_45 rfl rfl ?_
    refine z_bipush (nI 30) 48 zkb_30 dX9_fill_46 rfl ?_
    refine z_icmp_gt 136 51 dX9_fill_48 (by decide) rfl (fun c2 => ?_) (fun c2 => ?_)
    · exact z_sub [] rfl (BX9_fill_136 b0 h )
    · refine z_iconst (nI 0) 52 zki_0 dX9_fill_51 rfl ?_
      refine z_istore (lv2 := [(4, .int (nI 0)), (0, .ref (b0 + x0)), (1, .ref (b0 + x1)), (2, .int x2), (3, .int x3)]) 54 dX9_fill_52 rfl (Nat.le_of_ble_eq_true rfl) rfl ?_
      exact z_sub [1, 2, 3, 4, 0] rfl (BX9_fill_54 b0 self40 x0 x1 x2 x3 hself40 zfu (nI 0) h)
theorem BX9_fill_40 (b0 : Nat) (x0 : Nat) (x1 : Nat) (x2 : Int32) (n : Nat) (x3 : Int32) (h : ZH) : Zr zv b0 YX9_fill 2 40 [(0, .ref (b0 + x0)), (1, .ref (b0 + x1)), (2, .int x2), (3, .int x3)] [] h (zloop (lX9_fill_40 x0 x1 x2) n (x3, h)) :=
  zloop_Zr (fun s => [(0, .ref (b0 + x0)), (1, .ref (b0 + x1)), (2, .int x2), (3, .int s.1)]) (fun _ => []) (fun s => s.2) (lX9_fill_40 x0 x1 x2) (fun self hs s => KX9_fill_40 b0 x0 x1 x2 self (fun y3 hh => hs (y3, hh)) s.1 s.2) n (x3, h)
def bX9_fill_38 (x0 : Nat) (x1 : Nat) (x2 : Int32) (h : ZH) : Option (ZH) :=
  zloop (lX9_fill_40 x0 x1 x2) zfu ((nI 1), h)
theorem BX9_fill_38 (b0 : Nat) (x0 : Nat) (x1 : Nat) (x2 : Int32) (h : ZH) : Zr zv b0 YX9_fill 2 38 [(0, .ref (b0 + x0)), (1, .ref (b0 + x1)), (2, .int x2)] [] h (bX9_fill_38 x0 x1 x2 h) := by
  unfold bX9_fill_38
  refine z_iconst (nI 1) 39 zki_1 dX9_fill_38 rfl ?_
  refine z_istore_n (lv2 := [(3, .int (nI 1)), (0, .ref (b0 + x0)), (1, .ref (b0 + x1)), (2, .int x2)]) 40 dX9_fill_39 rfl (Nat.le_of_ble_eq_true rfl) rfl ?_
  exact z_sub [1, 2, 3, 0] rfl (BX9_fill_40 b0 x0 x1 x2 zfu (nI 1) h)
def kX9_fill_10 (x0 : Nat) (x1 : Nat) (x2 : Int32) (self10 : Int32 × ZH → Option (ZH)) (x3 : Int32) (h : ZH) : Option (ZH) :=
  (fX6_size x1 h).bind fun q1 =>
  if q1.1 ≤ x3 then (bX9_fill_38 x0 x1 x2 q1.2) else
  (if (nI 255) ≤ x3 then (bX9_fill_38 x0 x1 x2 q1.2) else
  ((gR q1.2 9 x0 0).bind fun v4 =>
  (sJ q1.2 v4 x3 (lN 1)).bind fun h5 =>
  self10 ((x3 + (nI 1)), h5)))
def lX9_fill_10 (x0 : Nat) (x1 : Nat) (x2 : Int32) : (Int32 × ZH → Option (ZH)) → Int32 × ZH → Option (ZH) := fun self s => kX9_fill_10 x0 x1 x2 self s.1 s.2
theorem KX9_fill_10 (b0 : Nat) (x0 : Nat) (x1 : Nat) (x2 : Int32) (self10 : Int32 × ZH → Option (ZH)) (hself10 : ∀ (y3 : Int32) (hh : ZH), Zr zv b0 YX9_fill 2 10 [(0, .ref (b0 + x0)), (1, .ref (b0 + x1)), (2, .int x2), (3, .int y3)] [] hh (self10 (y3, hh))) (x3 : Int32) (h : ZH) : Zr zv b0 YX9_fill 2 10 [(0, .ref (b0 + x0)), (1, .ref (b0 + x1)), (2, .int x2), (3, .int x3)] [] h (kX9_fill_10 x0 x1 x2 self10 x3 h) := by
  unfold kX9_fill_10
  refine z_iload_n 11 3 dX9_fill_10 rfl rfl ?_
  refine z_aload_n 12 1 dX9_fill_11 rfl rfl ?_
  refine z_callVi 15 (mX6_size b0 x1 h) zyX6_size rfl w_499 (ci := 6) rfl (Nat.le_of_ble_eq_true rfl) (fun _ e9 => kX6_size e9) wm_yX6_size ws_yX6_size (Nat.le_of_ble_eq_true rfl) rfl (Nat.le_of_ble_eq_true rfl) dX9_fill_12 rfl (fun q1 => ?_)
  refine z_icmp_ge 38 18 dX9_fill_15 (by decide) rfl (fun c2 => ?_) (fun c2 => ?_)
  · exact z_sub [0, 1, 2] rfl (BX9_fill_38 b0 x0 x1 x2 q1.2 )
  · refine z_iload_n 19 3 dX9_fill_18 rfl rfl ?_
    refine z_sipush (nI 255) 22 zks_255 dX9_fill_19 rfl ?_
    refine z_icmp_ge 38 25 dX9_fill_22 (by decide) rfl (fun c3 => ?_) (fun c3 => ?_)
    · exact z_sub [0, 1, 2] rfl (BX9_fill_38 b0 x0 x1 x2 q1.2 )
    · refine z_aload_n 26 0 dX9_fill_25 rfl rfl ?_
      refine z_getR 29 zC9 (Nat.le_of_ble_eq_true rfl) rfl w_106 dX9_fill_26 rfl (fun v4 _ => ?_)
      refine z_iload_n 30 3 dX9_fill_29 rfl rfl ?_
      refine z_lconst (lN 1) 31 rfl dX9_fill_30 rfl ?_
      refine z_lastore 32 dX9_fill_31 rfl (fun h5 _ => ?_)
      refine z_iinc (lv2 := [(3, .int (x3 + (nI 1))), (0, .ref (b0 + x0)), (1, .ref (b0 + x1)), (2, .int x2)]) (nI 1) 35 3 dX9_fill_32 rfl rfl zki_1 (Nat.le_of_ble_eq_true rfl) rfl ?_
      refine z_goto 10 dX9_fill_35 (by decide) ?_
      exact z_sub [1, 2, 3, 0] rfl (hself10 (x3 + (nI 1)) h5)
theorem BX9_fill_10 (b0 : Nat) (x0 : Nat) (x1 : Nat) (x2 : Int32) (n : Nat) (x3 : Int32) (h : ZH) : Zr zv b0 YX9_fill 2 10 [(0, .ref (b0 + x0)), (1, .ref (b0 + x1)), (2, .int x2), (3, .int x3)] [] h (zloop (lX9_fill_10 x0 x1 x2) n (x3, h)) :=
  zloop_Zr (fun s => [(0, .ref (b0 + x0)), (1, .ref (b0 + x1)), (2, .int x2), (3, .int s.1)]) (fun _ => []) (fun s => s.2) (lX9_fill_10 x0 x1 x2) (fun self hs s => KX9_fill_10 b0 x0 x1 x2 self (fun y3 hh => hs (y3, hh)) s.1 s.2) n (x3, h)
def fX9_fill (x0 : Nat) (x1 : Nat) (x2 : Int32) (h : ZH) : Option (ZH) :=
  if x0 < zn h ∧ zK h x0 = 9 then ((fX6_start x1 h).bind fun q1 =>
  (pI q1.2 9 x0 1 q1.1).bind fun h2 =>
  zloop (lX9_fill_10 x0 x1 x2) zfu ((nI 0), h2)) else none
theorem kX9_fill {x0 : Nat} {x1 : Nat} {x2 : Int32} {h : ZH} {x : ZH} (e : fX9_fill x0 x1 x2 h = some x) : x0 < zn h ∧ zK h x0 = 9 := by
  unfold fX9_fill at e
  exact zguard e
theorem mX9_fill (b0 : Nat) (x0 : Nat) (x1 : Nat) (x2 : Int32) (h : ZH) : ZM zv b0 YX9_fill 2 [.ref (b0 + x0), .ref (b0 + x1), .int x2] h (fX9_fill x0 x1 x2 h) := by
  unfold fX9_fill
  refine ZM.of (by decide) rfl (Nat.le_of_ble_eq_true rfl) (fun _ => trivial) ?_
  refine z_sub (lv2 := [(0, .ref (b0 + x0)), (1, .ref (b0 + x1)), (2, .int x2)]) [0, 1, 2] rfl ?_
  refine z_guard (fun _ => ?_)
  refine z_aload_n 1 0 dX9_fill_0 rfl rfl ?_
  refine z_aload_n 2 1 dX9_fill_1 rfl rfl ?_
  refine z_callVi 5 (mX6_start b0 x1 h) zyX6_start rfl w_495 (ci := 6) rfl (Nat.le_of_ble_eq_true rfl) (fun _ e9 => kX6_start e9) wm_yX6_start ws_yX6_start (Nat.le_of_ble_eq_true rfl) rfl (Nat.le_of_ble_eq_true rfl) dX9_fill_2 rfl (fun q1 => ?_)
  refine z_putI 8 zC9 (Nat.le_of_ble_eq_true rfl) rfl rfl rfl w_107 dX9_fill_5 rfl (fun h2 _ => ?_)
  refine z_iconst (nI 0) 9 zki_0 dX9_fill_8 rfl ?_
  refine z_istore_n (lv2 := [(3, .int (nI 0)), (0, .ref (b0 + x0)), (1, .ref (b0 + x1)), (2, .int x2)]) 10 dX9_fill_9 rfl (Nat.le_of_ble_eq_true rfl) rfl ?_
  exact z_sub [1, 2, 3, 0] rfl (BX9_fill_10 b0 x0 x1 x2 zfu (nI 0) h2)
-- X9_total
def fX9_total (x0 : Nat) (x1 : Int32) (h : ZH) : Option (Int64 × ZH) :=
  if x0 < zn h ∧ zK h x0 = 9 then ((gI h 9 x0 1).bind fun v1 =>
  (fX9_count x0 v1 x1 h).bind fun q2 =>
  some (q2.1, q2.2)) else none
theorem kX9_total {x0 : Nat} {x1 : Int32} {h : ZH} {x : Int64 × ZH} (e : fX9_total x0 x1 h = some x) : x0 < zn h ∧ zK h x0 = 9 := by
  unfold fX9_total at e
  exact zguard e
theorem mX9_total (b0 : Nat) (x0 : Nat) (x1 : Int32) (h : ZH) : ZM zj b0 YX9_total 2 [.ref (b0 + x0), .int x1] h (fX9_total x0 x1 h) := by
  unfold fX9_total
  refine ZM.of (by decide) rfl (Nat.le_of_ble_eq_true rfl) (fun _ => trivial) ?_
  refine z_sub (lv2 := [(0, .ref (b0 + x0)), (1, .int x1)]) [0, 1] rfl ?_
  refine z_guard (fun _ => ?_)
  refine z_aload_n 1 0 dX9_total_0 rfl rfl ?_
  refine z_aload_n 2 0 dX9_total_1 rfl rfl ?_
  refine z_getI 5 zC9 (Nat.le_of_ble_eq_true rfl) rfl w_107 dX9_total_2 rfl (fun v1 _ => ?_)
  refine z_iload_n 6 1 dX9_total_5 rfl rfl ?_
  refine z_callVj 9 (mX9_count b0 x0 v1 x1 h) zyX9_count rfl w_507 (ci := 9) rfl (Nat.le_of_ble_eq_true rfl) (fun _ e9 => kX9_count e9) wm_yX9_count ws_yX9_count (Nat.le_of_ble_eq_true rfl) rfl (Nat.le_of_ble_eq_true rfl) dX9_total_6 rfl (fun q2 => ?_)
  exact z_lreturn dX9_total_9 rfl
-- X9_spell
def bX9_spell_88 (self17 : Int64 × Int32 × Int32 × ZH → Option (ZH)) (x0 : Nat) (x1 : Nat) (x5 : Nat) (x6 : Int64) (x8 : Int32) (x9 : Int32) (h : ZH) : Option (ZH) :=
  self17 (x6, x8, (x9 + (-1 : Int32)), h)
theorem BX9_spell_88 (b0 : Nat) (self17 : Int64 × Int32 × Int32 × ZH → Option (ZH)) (x0 : Nat) (x1 : Nat) (x5 : Nat) (x6 : Int64) (x8 : Int32) (x9 : Int32) (h : ZH) (hself17 : ∀ (y6 : Int64) (y8 : Int32) (y9 : Int32) (hh : ZH), Zr zv b0 YX9_spell 3 17 [(0, .ref (b0 + x0)), (1, .ref (b0 + x1)), (5, .ref (b0 + x5)), (6, .long y6), (8, .int y8), (9, .int y9)] [] hh (self17 (y6, y8, y9, hh))) : Zr zv b0 YX9_spell 3 88 [(0, .ref (b0 + x0)), (1, .ref (b0 + x1)), (5, .ref (b0 + x5)), (6, .long x6), (8, .int x8), (9, .int x9)] [] h (bX9_spell_88 self17 x0 x1 x5 x6 x8 x9 h) := by
  unfold bX9_spell_88
  refine z_iinc (lv2 := [(9, .int (x9 + (-1 : Int32))), (0, .ref (b0 + x0)), (1, .ref (b0 + x1)), (5, .ref (b0 + x5)), (6, .long x6), (8, .int x8)]) (-1 : Int32) 91 5 dX9_spell_88 rfl rfl zki_m1 (Nat.le_of_ble_eq_true rfl) rfl ?_
  refine z_goto 17 dX9_spell_91 (by decide) ?_
  exact z_sub [1, 2, 3, 4, 5, 0] rfl (hself17 x6 x8 (x9 + (-1 : Int32)) h)
def kX9_spell_25 (self17 : Int64 × Int32 × Int32 × ZH → Option (ZH)) (x0 : Nat) (x1 : Nat) (x5 : Nat) (x8 : Int32) (x9 : Int32) (self25 : Int64 × Int32 × ZH → Option (ZH)) (x6 : Int64) (x10 : Int32) (h : ZH) : Option (ZH) :=
  if (nI 4) ≤ x10 then (bX9_spell_88 self17 x0 x1 x5 x6 x8 x9 h) else
  ((fX6_after x1 x8 x10 h).bind fun q2 =>
  (fX9_count x0 q2.1 (x9 - (nI 1)) q2.2).bind fun q3 =>
  if 0 ≤ (lg_cmp x6 q3.1) then (zl (x6 - q3.1) fun v5 =>
  self25 (v5, (x10 + (nI 1)), q3.2)) else
  ((fX7_addLetter x5 x10 q3.2).bind fun h6 =>
  bX9_spell_88 self17 x0 x1 x5 x6 q2.1 x9 h6))
def lX9_spell_25 (self17 : Int64 × Int32 × Int32 × ZH → Option (ZH)) (x0 : Nat) (x1 : Nat) (x5 : Nat) (x8 : Int32) (x9 : Int32) : (Int64 × Int32 × ZH → Option (ZH)) → Int64 × Int32 × ZH → Option (ZH) := fun self s => kX9_spell_25 self17 x0 x1 x5 x8 x9 self s.1 s.2.1 s.2.2
theorem KX9_spell_25 (b0 : Nat) (self17 : Int64 × Int32 × Int32 × ZH → Option (ZH)) (x0 : Nat) (x1 : Nat) (x5 : Nat) (x8 : Int32) (x9 : Int32) (hself17 : ∀ (y6 : Int64) (y8 : Int32) (y9 : Int32) (hh : ZH), Zr zv b0 YX9_spell 3 17 [(0, .ref (b0 + x0)), (1, .ref (b0 + x1)), (5, .ref (b0 + x5)), (6, .long y6), (8, .int y8), (9, .int y9)] [] hh (self17 (y6, y8, y9, hh))) (self25 : Int64 × Int32 × ZH → Option (ZH)) (hself25 : ∀ (y6 : Int64) (y10 : Int32) (hh : ZH), Zr zv b0 YX9_spell 3 25 [(0, .ref (b0 + x0)), (1, .ref (b0 + x1)), (5, .ref (b0 + x5)), (8, .int x8), (9, .int x9), (6, .long y6), (10, .int y10)] [] hh (self25 (y6, y10, hh))) (x6 : Int64) (x10 : Int32) (h : ZH) : Zr zv b0 YX9_spell 3 25 [(0, .ref (b0 + x0)), (1, .ref (b0 + x1)), (5, .ref (b0 + x5)), (8, .int x8), (9, .int x9), (6, .long x6), (10, .int x10)] [] h (kX9_spell_25 self17 x0 x1 x5 x8 x9 self25 x6 x10 h) := by
  unfold kX9_spell_25
  refine z_iload 27 6 dX9_spell_25 rfl rfl ?_
  refine z_iconst (nI 4) 28 zki_4 dX9_spell_27 rfl ?_
  refine z_icmp_ge 88 31 dX9_spell_28 (by decide) rfl (fun c1 => ?_) (fun c1 => ?_)
  · exact z_sub [0, 1, 2, 5, 3, 4] rfl (BX9_spell_88 b0 self17 x0 x1 x5 x6 x8 x9 h hself17)
  · refine z_aload_n 32 1 dX9_spell_31 rfl rfl ?_
    refine z_iload 34 3 dX9_spell_32 rfl rfl ?_
    refine z_iload 36 6 dX9_spell_34 rfl rfl ?_
    refine z_callVi 39 (mX6_after b0 x1 x8 x10 h) zyX6_after rfl w_503 (ci := 6) rfl (Nat.le_of_ble_eq_true rfl) (fun _ e9 => kX6_after e9) wm_yX6_after ws_yX6_after (Nat.le_of_ble_eq_true rfl) rfl (Nat.le_of_ble_eq_true rfl) dX9_spell_36 rfl (fun q2 => ?_)
    refine z_istore (lv2 := [(11, .int q2.1), (0, .ref (b0 + x0)), (1, .ref (b0 + x1)), (5, .ref (b0 + x5)), (8, .int x8), (9, .int x9), (6, .long x6), (10, .int x10)]) 41 dX9_spell_39 rfl (Nat.le_of_ble_eq_true rfl) rfl ?_
    refine z_aload_n 42 1 dX9_spell_41 rfl rfl ?_
    refine z_iload 44 0 dX9_spell_42 rfl rfl ?_
    refine z_iload 46 5 dX9_spell_44 rfl rfl ?_
    refine z_iconst (nI 1) 47 zki_1 dX9_spell_46 rfl ?_
    refine z_isub 48 dX9_spell_47 rfl ?_
    refine z_callVj 51 (mX9_count b0 x0 q2.1 (x9 - (nI 1)) q2.2) zyX9_count rfl w_507 (ci := 9) rfl (Nat.le_of_ble_eq_true rfl) (fun _ e9 => kX9_count e9) wm_yX9_count ws_yX9_count (Nat.le_of_ble_eq_true rfl) rfl (Nat.le_of_ble_eq_true rfl) dX9_spell_48 rfl (fun q3 => ?_)
    refine z_lstore (lv2 := [(12, .long q3.1), (11, .int q2.1), (0, .ref (b0 + x0)), (1, .ref (b0 + x1)), (5, .ref (b0 + x5)), (8, .int x8), (9, .int x9), (6, .long x6), (10, .int x10)]) 53 dX9_spell_51 rfl (Nat.le_of_ble_eq_true rfl) rfl ?_
    refine z_lload 55 7 dX9_spell_53 rfl rfl ?_
    refine z_lload 57 0 dX9_spell_55 rfl rfl ?_
    refine z_lcmp 58 dX9_spell_57 rfl ?_
    refine z_if_ge 75 61 dX9_spell_58 (by decide) rfl (fun c4 => ?_) (fun c4 => ?_)
    · refine z_lload 77 7 dX9_spell_75 rfl rfl ?_
      refine z_lload 79 0 dX9_spell_77 rfl rfl ?_
      refine z_lsub 80 dX9_spell_79 rfl ?_
      refine z_letJ (fun v5 _ => ?_)
      refine z_lstore (lv2 := [(6, .long v5), (12, .long q3.1), (11, .int q2.1), (0, .ref (b0 + x0)), (1, .ref (b0 + x1)), (5, .ref (b0 + x5)), (8, .int x8), (9, .int x9), (10, .int x10)]) 82 dX9_spell_80 rfl (Nat.le_of_ble_eq_true rfl) rfl ?_
      refine z_iinc (lv2 := [(10, .int (x10 + (nI 1))), (6, .long v5), (12, .long q3.1), (11, .int q2.1), (0, .ref (b0 + x0)), (1, .ref (b0 + x1)), (5, .ref (b0 + x5)), (8, .int x8), (9, .int x9)]) (nI 1) 85 8 dX9_spell_82 rfl rfl zki_1 (Nat.le_of_ble_eq_true rfl) rfl ?_
      refine z_goto 25 dX9_spell_85 (by decide) ?_
      exact z_sub [4, 5, 6, 7, 8, 1, 0] rfl (hself25 v5 (x10 + (nI 1)) q3.2)
    · refine z_aload 63 4 dX9_spell_61 rfl rfl ?_
      refine z_iload 65 8 dX9_spell_63 rfl rfl ?_
      refine z_callVv 68 (mX7_addLetter b0 x5 x10 q3.2) zyX7_addLetter rfl w_542 (ci := 7) rfl (Nat.le_of_ble_eq_true rfl) (fun _ e9 => kX7_addLetter e9) wm_yX7_addLetter ws_yX7_addLetter (Nat.le_of_ble_eq_true rfl) rfl (Nat.le_of_ble_eq_true rfl) dX9_spell_65 rfl (fun h6 => ?_)
      refine z_iload 70 1 dX9_spell_68 rfl rfl ?_
      refine z_istore (lv2 := [(8, .int q2.1), (12, .long q3.1), (11, .int q2.1), (0, .ref (b0 + x0)), (1, .ref (b0 + x1)), (5, .ref (b0 + x5)), (9, .int x9), (6, .long x6), (10, .int x10)]) 72 dX9_spell_70 rfl (Nat.le_of_ble_eq_true rfl) rfl ?_
      refine z_goto 88 dX9_spell_72 (by decide) ?_
      exact z_sub [3, 4, 5, 7, 0, 6] rfl (BX9_spell_88 b0 self17 x0 x1 x5 x6 q2.1 x9 h6 hself17)
theorem BX9_spell_25 (b0 : Nat) (self17 : Int64 × Int32 × Int32 × ZH → Option (ZH)) (x0 : Nat) (x1 : Nat) (x5 : Nat) (x8 : Int32) (x9 : Int32) (hself17 : ∀ (y6 : Int64) (y8 : Int32) (y9 : Int32) (hh : ZH), Zr zv b0 YX9_spell 3 17 [(0, .ref (b0 + x0)), (1, .ref (b0 + x1)), (5, .ref (b0 + x5)), (6, .long y6), (8, .int y8), (9, .int y9)] [] hh (self17 (y6, y8, y9, hh))) (n : Nat) (x6 : Int64) (x10 : Int32) (h : ZH) : Zr zv b0 YX9_spell 3 25 [(0, .ref (b0 + x0)), (1, .ref (b0 + x1)), (5, .ref (b0 + x5)), (8, .int x8), (9, .int x9), (6, .long x6), (10, .int x10)] [] h (zloop (lX9_spell_25 self17 x0 x1 x5 x8 x9) n (x6, x10, h)) :=
  zloop_Zr (fun s => [(0, .ref (b0 + x0)), (1, .ref (b0 + x1)), (5, .ref (b0 + x5)), (8, .int x8), (9, .int x9), (6, .long s.1), (10, .int s.2.1)]) (fun _ => []) (fun s => s.2.2) (lX9_spell_25 self17 x0 x1 x5 x8 x9) (fun self hs s => KX9_spell_25 b0 self17 x0 x1 x5 x8 x9 hself17 self (fun y6 y10 hh => hs (y6, y10, hh)) s.1 s.2.1 s.2.2) n (x6, x10, h)
def kX9_spell_17 (x0 : Nat) (x1 : Nat) (x5 : Nat) (self17 : Int64 × Int32 × Int32 × ZH → Option (ZH)) (x6 : Int64) (x8 : Int32) (x9 : Int32) (h : ZH) : Option (ZH) :=
  if x9 ≤ 0 then (some h) else
  (zloop (lX9_spell_25 self17 x0 x1 x5 x8 x9) zfu (x6, (nI 0), h))
def lX9_spell_17 (x0 : Nat) (x1 : Nat) (x5 : Nat) : (Int64 × Int32 × Int32 × ZH → Option (ZH)) → Int64 × Int32 × Int32 × ZH → Option (ZH) := fun self s => kX9_spell_17 x0 x1 x5 self s.1 s.2.1 s.2.2.1 s.2.2.2
theorem KX9_spell_17 (b0 : Nat) (x0 : Nat) (x1 : Nat) (x5 : Nat) (self17 : Int64 × Int32 × Int32 × ZH → Option (ZH)) (hself17 : ∀ (y6 : Int64) (y8 : Int32) (y9 : Int32) (hh : ZH), Zr zv b0 YX9_spell 3 17 [(0, .ref (b0 + x0)), (1, .ref (b0 + x1)), (5, .ref (b0 + x5)), (6, .long y6), (8, .int y8), (9, .int y9)] [] hh (self17 (y6, y8, y9, hh))) (x6 : Int64) (x8 : Int32) (x9 : Int32) (h : ZH) : Zr zv b0 YX9_spell 3 17 [(0, .ref (b0 + x0)), (1, .ref (b0 + x1)), (5, .ref (b0 + x5)), (6, .long x6), (8, .int x8), (9, .int x9)] [] h (kX9_spell_17 x0 x1 x5 self17 x6 x8 x9 h) := by
  unfold kX9_spell_17
  refine z_iload 19 5 dX9_spell_17 rfl rfl ?_
  refine z_if_le 94 22 dX9_spell_19 (by decide) rfl (fun c1 => ?_) (fun c1 => ?_)
  · exact z_return dX9_spell_94 rfl
  · refine z_iconst (nI 0) 23 zki_0 dX9_spell_22 rfl ?_
    refine z_istore (lv2 := [(10, .int (nI 0)), (0, .ref (b0 + x0)), (1, .ref (b0 + x1)), (5, .ref (b0 + x5)), (6, .long x6), (8, .int x8), (9, .int x9)]) 25 dX9_spell_23 rfl (Nat.le_of_ble_eq_true rfl) rfl ?_
    exact z_sub [1, 2, 3, 5, 6, 4, 0] rfl (BX9_spell_25 b0 self17 x0 x1 x5 x8 x9 hself17 zfu x6 (nI 0) h)
theorem BX9_spell_17 (b0 : Nat) (x0 : Nat) (x1 : Nat) (x5 : Nat) (n : Nat) (x6 : Int64) (x8 : Int32) (x9 : Int32) (h : ZH) : Zr zv b0 YX9_spell 3 17 [(0, .ref (b0 + x0)), (1, .ref (b0 + x1)), (5, .ref (b0 + x5)), (6, .long x6), (8, .int x8), (9, .int x9)] [] h (zloop (lX9_spell_17 x0 x1 x5) n (x6, x8, x9, h)) :=
  zloop_Zr (fun s => [(0, .ref (b0 + x0)), (1, .ref (b0 + x1)), (5, .ref (b0 + x5)), (6, .long s.1), (8, .int s.2.1), (9, .int s.2.2.1)]) (fun _ => []) (fun s => s.2.2.2) (lX9_spell_17 x0 x1 x5) (fun self hs s => KX9_spell_17 b0 x0 x1 x5 self (fun y6 y8 y9 hh => hs (y6, y8, y9, hh)) s.1 s.2.1 s.2.2.1 s.2.2.2) n (x6, x8, x9, h)
def fX9_spell (x0 : Nat) (x1 : Nat) (x2 : Int32) (x3 : Int64) (x5 : Nat) (h : ZH) : Option (ZH) :=
  if x0 < zn h ∧ zK h x0 = 9 then ((fX7_clear x5 h).bind fun h1 =>
  (gI h1 9 x0 1).bind fun v2 =>
  zloop (lX9_spell_17 x0 x1 x5) zfu (x3, v2, x2, h1)) else none
theorem kX9_spell {x0 : Nat} {x1 : Nat} {x2 : Int32} {x3 : Int64} {x5 : Nat} {h : ZH} {x : ZH} (e : fX9_spell x0 x1 x2 x3 x5 h = some x) : x0 < zn h ∧ zK h x0 = 9 := by
  unfold fX9_spell at e
  exact zguard e
theorem mX9_spell (b0 : Nat) (x0 : Nat) (x1 : Nat) (x2 : Int32) (x3 : Int64) (x5 : Nat) (h : ZH) : ZM zv b0 YX9_spell 3 [.ref (b0 + x0), .ref (b0 + x1), .int x2, .long x3, .ref (b0 + x5)] h (fX9_spell x0 x1 x2 x3 x5 h) := by
  unfold fX9_spell
  refine ZM.of (by decide) rfl (Nat.le_of_ble_eq_true rfl) (fun _ => trivial) ?_
  refine z_sub (lv2 := [(0, .ref (b0 + x0)), (1, .ref (b0 + x1)), (2, .int x2), (3, .long x3), (5, .ref (b0 + x5))]) [0, 1, 2, 3, 4] rfl ?_
  refine z_guard (fun _ => ?_)
  refine z_aload 2 4 dX9_spell_0 rfl rfl ?_
  refine z_callVv 5 (mX7_clear b0 x5 h) zyX7_clear rfl w_541 (ci := 7) rfl (Nat.le_of_ble_eq_true rfl) (fun _ e9 => kX7_clear e9) wm_yX7_clear ws_yX7_clear (Nat.le_of_ble_eq_true rfl) rfl (Nat.le_of_ble_eq_true rfl) dX9_spell_2 rfl (fun h1 => ?_)
  refine z_lload_n 6 3 dX9_spell_5 rfl rfl ?_
  refine z_lstore (lv2 := [(6, .long x3), (0, .ref (b0 + x0)), (1, .ref (b0 + x1)), (2, .int x2), (3, .long x3), (5, .ref (b0 + x5))]) 8 dX9_spell_6 rfl (Nat.le_of_ble_eq_true rfl) rfl ?_
  refine z_aload_n 9 1 dX9_spell_8 rfl rfl ?_
  refine z_getI 12 zC9 (Nat.le_of_ble_eq_true rfl) rfl w_107 dX9_spell_9 rfl (fun v2 _ => ?_)
  refine z_istore (lv2 := [(8, .int v2), (6, .long x3), (0, .ref (b0 + x0)), (1, .ref (b0 + x1)), (2, .int x2), (3, .long x3), (5, .ref (b0 + x5))]) 14 dX9_spell_12 rfl (Nat.le_of_ble_eq_true rfl) rfl ?_
  refine z_iload_n 15 4 dX9_spell_14 rfl rfl ?_
  refine z_istore (lv2 := [(9, .int x2), (8, .int v2), (6, .long x3), (0, .ref (b0 + x0)), (1, .ref (b0 + x1)), (2, .int x2), (3, .long x3), (5, .ref (b0 + x5))]) 17 dX9_spell_15 rfl (Nat.le_of_ble_eq_true rfl) rfl ?_
  exact z_sub [3, 4, 7, 2, 1, 0] rfl (BX9_spell_17 b0 x0 x1 x5 zfu x3 v2 x2 h1)
-- X10_init
def kX10_init_220 (x0 : Nat) (self220 : Int32 × ZH → Option (ZH)) (x1 : Int32) (h : ZH) : Option (ZH) :=
  if (nI 4) ≤ x1 then (some h) else
  ((gR h 10 x0 6).bind fun v2 =>
  (zal h 3 4).bind fun q3 =>
  (fX3_init q3.1 q3.2).bind fun h4 =>
  (sR h4 18 v2 x1 q3.1).bind fun h5 =>
  self220 ((x1 + (nI 1)), h5))
def lX10_init_220 (x0 : Nat) : (Int32 × ZH → Option (ZH)) → Int32 × ZH → Option (ZH) := fun self s => kX10_init_220 x0 self s.1 s.2
theorem KX10_init_220 (b0 : Nat) (x0 : Nat) (self220 : Int32 × ZH → Option (ZH)) (hself220 : ∀ (y1 : Int32) (hh : ZH), Zr zv b0 YX10_init 4 220 [(0, .ref (b0 + x0)), (1, .int y1)] [] hh (self220 (y1, hh))) (x1 : Int32) (h : ZH) : Zr zv b0 YX10_init 4 220 [(0, .ref (b0 + x0)), (1, .int x1)] [] h (kX10_init_220 x0 self220 x1 h) := by
  unfold kX10_init_220
  refine z_iload_n 221 1 dX10_init_220 rfl rfl ?_
  refine z_iconst (nI 4) 222 zki_4 dX10_init_221 rfl ?_
  refine z_icmp_ge 244 225 dX10_init_222 (by decide) rfl (fun c1 => ?_) (fun c1 => ?_)
  · exact z_return dX10_init_244 rfl
  · refine z_aload_n 226 0 dX10_init_225 rfl rfl ?_
    refine z_getR 229 zC10 (Nat.le_of_ble_eq_true rfl) rfl w_244 dX10_init_226 rfl (fun v2 _ => ?_)
    refine z_iload_n 230 1 dX10_init_229 rfl rfl ?_
    refine z_newO 233 zC3 zdf3 w_72 wn_3 wi_RX3 dX10_init_230 rfl (fun q3 => ?_)
    refine z_dup 234 rfl dX10_init_233 rfl ?_
    refine z_callINv 237 (mX3_init b0 q3.1 q3.2) zyX3_init rfl (List.mem_of_getElem? (i := 10) rfl) rfl rfl wm_yX3_init (Nat.le_of_ble_eq_true rfl) rfl (Nat.le_of_ble_eq_true rfl) dX10_init_234 rfl (fun h4 => ?_)
    refine z_aastore18 238 dX10_init_237 rfl (fun h5 _ => ?_)
    refine z_iinc (lv2 := [(1, .int (x1 + (nI 1))), (0, .ref (b0 + x0))]) (nI 1) 241 1 dX10_init_238 rfl rfl zki_1 (Nat.le_of_ble_eq_true rfl) rfl ?_
    refine z_goto 220 dX10_init_241 (by decide) ?_
    exact z_sub [1, 0] rfl (hself220 (x1 + (nI 1)) h5)
theorem BX10_init_220 (b0 : Nat) (x0 : Nat) (n : Nat) (x1 : Int32) (h : ZH) : Zr zv b0 YX10_init 4 220 [(0, .ref (b0 + x0)), (1, .int x1)] [] h (zloop (lX10_init_220 x0) n (x1, h)) :=
  zloop_Zr (fun s => [(0, .ref (b0 + x0)), (1, .int s.1)]) (fun _ => []) (fun s => s.2) (lX10_init_220 x0) (fun self hs s => KX10_init_220 b0 x0 self (fun y1 hh => hs (y1, hh)) s.1 s.2) n (x1, h)
def kX10_init_180 (x0 : Nat) (self180 : Int32 × ZH → Option (ZH)) (x1 : Int32) (h : ZH) : Option (ZH) :=
  if (nI 6) ≤ x1 then (zloop (lX10_init_220 x0) zfu ((nI 0), h)) else
  ((gR h 10 x0 0).bind fun v2 =>
  (zal h 1 1).bind fun q3 =>
  (fX1_init q3.1 q3.2).bind fun h4 =>
  (sR h4 17 v2 x1 q3.1).bind fun h5 =>
  (gR h5 10 x0 1).bind fun v6 =>
  (zal h5 1 1).bind fun q7 =>
  (fX1_init q7.1 q7.2).bind fun h8 =>
  (sR h8 17 v6 x1 q7.1).bind fun h9 =>
  self180 ((x1 + (nI 1)), h9))
def lX10_init_180 (x0 : Nat) : (Int32 × ZH → Option (ZH)) → Int32 × ZH → Option (ZH) := fun self s => kX10_init_180 x0 self s.1 s.2
theorem KX10_init_180 (b0 : Nat) (x0 : Nat) (self180 : Int32 × ZH → Option (ZH)) (hself180 : ∀ (y1 : Int32) (hh : ZH), Zr zv b0 YX10_init 4 180 [(0, .ref (b0 + x0)), (1, .int y1)] [] hh (self180 (y1, hh))) (x1 : Int32) (h : ZH) : Zr zv b0 YX10_init 4 180 [(0, .ref (b0 + x0)), (1, .int x1)] [] h (kX10_init_180 x0 self180 x1 h) := by
  unfold kX10_init_180
  refine z_iload_n 181 1 dX10_init_180 rfl rfl ?_
  refine z_bipush (nI 6) 183 zkb_6 dX10_init_181 rfl ?_
  refine z_icmp_ge 218 186 dX10_init_183 (by decide) rfl (fun c1 => ?_) (fun c1 => ?_)
  · refine z_iconst (nI 0) 219 zki_0 dX10_init_218 rfl ?_
    refine z_istore_n (lv2 := [(1, .int (nI 0)), (0, .ref (b0 + x0))]) 220 dX10_init_219 rfl (Nat.le_of_ble_eq_true rfl) rfl ?_
    exact z_sub [1, 0] rfl (BX10_init_220 b0 x0 zfu (nI 0) h)
  · refine z_aload_n 187 0 dX10_init_186 rfl rfl ?_
    refine z_getR 190 zC10 (Nat.le_of_ble_eq_true rfl) rfl w_238 dX10_init_187 rfl (fun v2 _ => ?_)
    refine z_iload_n 191 1 dX10_init_190 rfl rfl ?_
    refine z_newO 194 zC1 zdf1 w_26 wn_1 wi_RX1 dX10_init_191 rfl (fun q3 => ?_)
    refine z_dup 195 rfl dX10_init_194 rfl ?_
    refine z_callINv 198 (mX1_init b0 q3.1 q3.2) zyX1_init rfl (List.mem_of_getElem? (i := 1) rfl) rfl rfl wm_yX1_init (Nat.le_of_ble_eq_true rfl) rfl (Nat.le_of_ble_eq_true rfl) dX10_init_195 rfl (fun h4 => ?_)
    refine z_aastore17 199 dX10_init_198 rfl (fun h5 _ => ?_)
    refine z_aload_n 200 0 dX10_init_199 rfl rfl ?_
    refine z_getR 203 zC10 (Nat.le_of_ble_eq_true rfl) rfl w_239 dX10_init_200 rfl (fun v6 _ => ?_)
    refine z_iload_n 204 1 dX10_init_203 rfl rfl ?_
    refine z_newO 207 zC1 zdf1 w_26 wn_1 wi_RX1 dX10_init_204 rfl (fun q7 => ?_)
    refine z_dup 208 rfl dX10_init_207 rfl ?_
    refine z_callINv 211 (mX1_init b0 q7.1 q7.2) zyX1_init rfl (List.mem_of_getElem? (i := 1) rfl) rfl rfl wm_yX1_init (Nat.le_of_ble_eq_true rfl) rfl (Nat.le_of_ble_eq_true rfl) dX10_init_208 rfl (fun h8 => ?_)
    refine z_aastore17 212 dX10_init_211 rfl (fun h9 _ => ?_)
    refine z_iinc (lv2 := [(1, .int (x1 + (nI 1))), (0, .ref (b0 + x0))]) (nI 1) 215 1 dX10_init_212 rfl rfl zki_1 (Nat.le_of_ble_eq_true rfl) rfl ?_
    refine z_goto 180 dX10_init_215 (by decide) ?_
    exact z_sub [1, 0] rfl (hself180 (x1 + (nI 1)) h9)
theorem BX10_init_180 (b0 : Nat) (x0 : Nat) (n : Nat) (x1 : Int32) (h : ZH) : Zr zv b0 YX10_init 4 180 [(0, .ref (b0 + x0)), (1, .int x1)] [] h (zloop (lX10_init_180 x0) n (x1, h)) :=
  zloop_Zr (fun s => [(0, .ref (b0 + x0)), (1, .int s.1)]) (fun _ => []) (fun s => s.2) (lX10_init_180 x0) (fun self hs s => KX10_init_180 b0 x0 self (fun y1 hh => hs (y1, hh)) s.1 s.2) n (x1, h)
def fX10_init (x0 : Nat) (h : ZH) : Option (ZH) :=
  if x0 < zn h ∧ zK h x0 = 10 then ((zala h 17 (nI 6)).bind fun q1 =>
  (pR q1.2 10 x0 0 q1.1).bind fun h2 =>
  (zala h2 17 (nI 6)).bind fun q3 =>
  (pR q3.2 10 x0 1 q3.1).bind fun h4 =>
  (zal h4 2 4).bind fun q5 =>
  (fX2_init q5.1 q5.2).bind fun h6 =>
  (pR h6 10 x0 3 q5.1).bind fun h7 =>
  (zal h7 7 2).bind fun q8 =>
  (fX7_init q8.1 (nI 120) q8.2).bind fun h9 =>
  (pR h9 10 x0 4 q8.1).bind fun h10 =>
  (zal h10 7 2).bind fun q11 =>
  (fX7_init q11.1 (nI 1024) q11.2).bind fun h12 =>
  (pR h12 10 x0 5 q11.1).bind fun h13 =>
  (zala h13 18 (nI 4)).bind fun q14 =>
  (pR q14.2 10 x0 6 q14.1).bind fun h15 =>
  (zal h15 1 1).bind fun q16 =>
  (fX1_init q16.1 q16.2).bind fun h17 =>
  (pR h17 10 x0 7 q16.1).bind fun h18 =>
  (zal h18 1 1).bind fun q19 =>
  (fX1_init q19.1 q19.2).bind fun h20 =>
  (pR h20 10 x0 8 q19.1).bind fun h21 =>
  (zal h21 1 1).bind fun q22 =>
  (fX1_init q22.1 q22.2).bind fun h23 =>
  (pR h23 10 x0 9 q22.1).bind fun h24 =>
  (zal h24 6 6).bind fun q25 =>
  (fX6_init q25.1 q25.2).bind fun h26 =>
  (pR h26 10 x0 10 q25.1).bind fun h27 =>
  (zal h27 6 6).bind fun q28 =>
  (fX6_init q28.1 q28.2).bind fun h29 =>
  (pR h29 10 x0 11 q28.1).bind fun h30 =>
  (zal h30 9 2).bind fun q31 =>
  (fX9_init q31.1 q31.2).bind fun h32 =>
  (pR h32 10 x0 12 q31.1).bind fun h33 =>
  (zal h33 4 4).bind fun q34 =>
  (fX4_init q34.1 q34.2).bind fun h35 =>
  (pR h35 10 x0 13 q34.1).bind fun h36 =>
  (zal h36 0 14).bind fun q37 =>
  (fX0_init q37.1 q37.2).bind fun h38 =>
  (pR h38 10 x0 14 q37.1).bind fun h39 =>
  (zal h39 8 2).bind fun q40 =>
  (fX8_init q40.1 q40.2).bind fun h41 =>
  (pR h41 10 x0 15 q40.1).bind fun h42 =>
  (zal h42 5 4).bind fun q43 =>
  (fX5_init q43.1 q43.2).bind fun h44 =>
  (pR h44 10 x0 16 q43.1).bind fun h45 =>
  zloop (lX10_init_180 x0) zfu ((nI 0), h45)) else none
theorem kX10_init {x0 : Nat} {h : ZH} {x : ZH} (e : fX10_init x0 h = some x) : x0 < zn h ∧ zK h x0 = 10 := by
  unfold fX10_init at e
  exact zguard e
theorem mX10_init (b0 : Nat) (x0 : Nat) (h : ZH) : ZM zv b0 YX10_init 4 [.ref (b0 + x0)] h (fX10_init x0 h) := by
  unfold fX10_init
  refine ZM.of (by decide) rfl (Nat.le_of_ble_eq_true rfl) (fun _ => trivial) ?_
  refine z_sub (lv2 := [(0, .ref (b0 + x0))]) [0] rfl ?_
  refine z_guard (fun _ => ?_)
  refine z_aload_n 1 0 dX10_init_0 rfl rfl ?_
  refine z_objInit 4 w_23 wm_Lib_objectInit wc_Lib_objectInit (Nat.le_of_ble_eq_true rfl) (Nat.le_of_ble_eq_true rfl) dX10_init_1 rfl ?_
  refine z_aload_n 5 0 dX10_init_4 rfl rfl ?_
  refine z_bipush (nI 6) 7 zkb_6 dX10_init_5 rfl ?_
  refine z_newQ17 10 w_26 dX10_init_7 rfl (fun q1 => ?_)
  refine z_putF 13 zC10 (Nat.le_of_ble_eq_true rfl) rfl rfl rfl rfl rfl (Or.inl ⟨_, rfl⟩) w_238 dX10_init_10 rfl (fun h2 _ => ?_)
  refine z_aload_n 14 0 dX10_init_13 rfl rfl ?_
  refine z_bipush (nI 6) 16 zkb_6 dX10_init_14 rfl ?_
  refine z_newQ17 19 w_26 dX10_init_16 rfl (fun q3 => ?_)
  refine z_putF 22 zC10 (Nat.le_of_ble_eq_true rfl) rfl rfl rfl rfl rfl (Or.inl ⟨_, rfl⟩) w_239 dX10_init_19 rfl (fun h4 _ => ?_)
  refine z_aload_n 23 0 dX10_init_22 rfl rfl ?_
  refine z_newO 26 zC2 zdf2 w_28 wn_2 wi_RX2 dX10_init_23 rfl (fun q5 => ?_)
  refine z_dup 27 rfl dX10_init_26 rfl ?_
  refine z_callIv 30 (mX2_init b0 q5.1 q5.2) zyX2_init rfl w_30 rfl rfl wm_yX2_init (Nat.le_of_ble_eq_true rfl) rfl (Nat.le_of_ble_eq_true rfl) dX10_init_27 rfl (fun h6 => ?_)
  refine z_putF 33 zC10 (Nat.le_of_ble_eq_true rfl) rfl rfl rfl rfl rfl (Or.inr ⟨_, rfl⟩) w_241 dX10_init_30 rfl (fun h7 _ => ?_)
  refine z_aload_n 34 0 dX10_init_33 rfl rfl ?_
  refine z_newO 37 zC7 zdf7 w_58 wn_7 wi_RX7 dX10_init_34 rfl (fun q8 => ?_)
  refine z_dup 38 rfl dX10_init_37 rfl ?_
  refine z_bipush (nI 120) 40 zkb_120 dX10_init_38 rfl ?_
  refine z_callIv 43 (mX7_init b0 q8.1 (nI 120) q8.2) zyX7_init rfl w_60 rfl rfl wm_yX7_init (Nat.le_of_ble_eq_true rfl) rfl (Nat.le_of_ble_eq_true rfl) dX10_init_40 rfl (fun h9 => ?_)
  refine z_putF 46 zC10 (Nat.le_of_ble_eq_true rfl) rfl rfl rfl rfl rfl (Or.inr ⟨_, rfl⟩) w_242 dX10_init_43 rfl (fun h10 _ => ?_)
  refine z_aload_n 47 0 dX10_init_46 rfl rfl ?_
  refine z_newO 50 zC7 zdf7 w_58 wn_7 wi_RX7 dX10_init_47 rfl (fun q11 => ?_)
  refine z_dup 51 rfl dX10_init_50 rfl ?_
  refine z_sipush (nI 1024) 54 zks_1024 dX10_init_51 rfl ?_
  refine z_callIv 57 (mX7_init b0 q11.1 (nI 1024) q11.2) zyX7_init rfl w_60 rfl rfl wm_yX7_init (Nat.le_of_ble_eq_true rfl) rfl (Nat.le_of_ble_eq_true rfl) dX10_init_54 rfl (fun h12 => ?_)
  refine z_putF 60 zC10 (Nat.le_of_ble_eq_true rfl) rfl rfl rfl rfl rfl (Or.inr ⟨_, rfl⟩) w_243 dX10_init_57 rfl (fun h13 _ => ?_)
  refine z_aload_n 61 0 dX10_init_60 rfl rfl ?_
  refine z_iconst (nI 4) 62 zki_4 dX10_init_61 rfl ?_
  refine z_newQ18 65 w_72 dX10_init_62 rfl (fun q14 => ?_)
  refine z_putF 68 zC10 (Nat.le_of_ble_eq_true rfl) rfl rfl rfl rfl rfl (Or.inl ⟨_, rfl⟩) w_244 dX10_init_65 rfl (fun h15 _ => ?_)
  refine z_aload_n 69 0 dX10_init_68 rfl rfl ?_
  refine z_newO 72 zC1 zdf1 w_26 wn_1 wi_RX1 dX10_init_69 rfl (fun q16 => ?_)
  refine z_dup 73 rfl dX10_init_72 rfl ?_
  refine z_callINv 76 (mX1_init b0 q16.1 q16.2) zyX1_init rfl (List.mem_of_getElem? (i := 1) rfl) rfl rfl wm_yX1_init (Nat.le_of_ble_eq_true rfl) rfl (Nat.le_of_ble_eq_true rfl) dX10_init_73 rfl (fun h17 => ?_)
  refine z_putF 79 zC10 (Nat.le_of_ble_eq_true rfl) rfl rfl rfl rfl rfl (Or.inr ⟨_, rfl⟩) w_245 dX10_init_76 rfl (fun h18 _ => ?_)
  refine z_aload_n 80 0 dX10_init_79 rfl rfl ?_
  refine z_newO 83 zC1 zdf1 w_26 wn_1 wi_RX1 dX10_init_80 rfl (fun q19 => ?_)
  refine z_dup 84 rfl dX10_init_83 rfl ?_
  refine z_callINv 87 (mX1_init b0 q19.1 q19.2) zyX1_init rfl (List.mem_of_getElem? (i := 1) rfl) rfl rfl wm_yX1_init (Nat.le_of_ble_eq_true rfl) rfl (Nat.le_of_ble_eq_true rfl) dX10_init_84 rfl (fun h20 => ?_)
  refine z_putF 90 zC10 (Nat.le_of_ble_eq_true rfl) rfl rfl rfl rfl rfl (Or.inr ⟨_, rfl⟩) w_246 dX10_init_87 rfl (fun h21 _ => ?_)
  refine z_aload_n 91 0 dX10_init_90 rfl rfl ?_
  refine z_newO 94 zC1 zdf1 w_26 wn_1 wi_RX1 dX10_init_91 rfl (fun q22 => ?_)
  refine z_dup 95 rfl dX10_init_94 rfl ?_
  refine z_callINv 98 (mX1_init b0 q22.1 q22.2) zyX1_init rfl (List.mem_of_getElem? (i := 1) rfl) rfl rfl wm_yX1_init (Nat.le_of_ble_eq_true rfl) rfl (Nat.le_of_ble_eq_true rfl) dX10_init_95 rfl (fun h23 => ?_)
  refine z_putF 101 zC10 (Nat.le_of_ble_eq_true rfl) rfl rfl rfl rfl rfl (Or.inr ⟨_, rfl⟩) w_247 dX10_init_98 rfl (fun h24 _ => ?_)
  refine z_aload_n 102 0 dX10_init_101 rfl rfl ?_
  refine z_newO 105 zC6 zdf6 w_75 wn_6 wi_RX6 dX10_init_102 rfl (fun q25 => ?_)
  refine z_dup 106 rfl dX10_init_105 rfl ?_
  refine z_callINv 109 (mX6_init b0 q25.1 q25.2) zyX6_init rfl (List.mem_of_getElem? (i := 2) rfl) rfl rfl wm_yX6_init (Nat.le_of_ble_eq_true rfl) rfl (Nat.le_of_ble_eq_true rfl) dX10_init_106 rfl (fun h26 => ?_)
  refine z_putF 112 zC10 (Nat.le_of_ble_eq_true rfl) rfl rfl rfl rfl rfl (Or.inr ⟨_, rfl⟩) w_248 dX10_init_109 rfl (fun h27 _ => ?_)
  refine z_aload_n 113 0 dX10_init_112 rfl rfl ?_
  refine z_newO 116 zC6 zdf6 w_75 wn_6 wi_RX6 dX10_init_113 rfl (fun q28 => ?_)
  refine z_dup 117 rfl dX10_init_116 rfl ?_
  refine z_callINv 120 (mX6_init b0 q28.1 q28.2) zyX6_init rfl (List.mem_of_getElem? (i := 2) rfl) rfl rfl wm_yX6_init (Nat.le_of_ble_eq_true rfl) rfl (Nat.le_of_ble_eq_true rfl) dX10_init_117 rfl (fun h29 => ?_)
  refine z_putF 123 zC10 (Nat.le_of_ble_eq_true rfl) rfl rfl rfl rfl rfl (Or.inr ⟨_, rfl⟩) w_249 dX10_init_120 rfl (fun h30 _ => ?_)
  refine z_aload_n 124 0 dX10_init_123 rfl rfl ?_
  refine z_newO 127 zC9 zdf9 w_100 wn_9 wi_RX9 dX10_init_124 rfl (fun q31 => ?_)
  refine z_dup 128 rfl dX10_init_127 rfl ?_
  refine z_callINv 131 (mX9_init b0 q31.1 q31.2) zyX9_init rfl (List.mem_of_getElem? (i := 3) rfl) rfl rfl wm_yX9_init (Nat.le_of_ble_eq_true rfl) rfl (Nat.le_of_ble_eq_true rfl) dX10_init_128 rfl (fun h32 => ?_)
  refine z_putF 134 zC10 (Nat.le_of_ble_eq_true rfl) rfl rfl rfl rfl rfl (Or.inr ⟨_, rfl⟩) w_250 dX10_init_131 rfl (fun h33 _ => ?_)
  refine z_aload_n 135 0 dX10_init_134 rfl rfl ?_
  refine z_newO 138 zC4 zdf4 w_114 wn_4 wi_RX4 dX10_init_135 rfl (fun q34 => ?_)
  refine z_dup 139 rfl dX10_init_138 rfl ?_
  refine z_callINv 142 (mX4_init b0 q34.1 q34.2) zyX4_init rfl (List.mem_of_getElem? (i := 4) rfl) rfl rfl wm_yX4_init (Nat.le_of_ble_eq_true rfl) rfl (Nat.le_of_ble_eq_true rfl) dX10_init_139 rfl (fun h35 => ?_)
  refine z_putF 145 zC10 (Nat.le_of_ble_eq_true rfl) rfl rfl rfl rfl rfl (Or.inr ⟨_, rfl⟩) w_251 dX10_init_142 rfl (fun h36 _ => ?_)
  refine z_aload_n 146 0 dX10_init_145 rfl rfl ?_
  refine z_newO 149 zC0 zdf0 w_133 wn_0 wi_RX0 dX10_init_146 rfl (fun q37 => ?_)
  refine z_dup 150 rfl dX10_init_149 rfl ?_
  refine z_callINv 153 (mX0_init b0 q37.1 q37.2) zyX0_init rfl (List.mem_of_getElem? (i := 5) rfl) rfl rfl wm_yX0_init (Nat.le_of_ble_eq_true rfl) rfl (Nat.le_of_ble_eq_true rfl) dX10_init_150 rfl (fun h38 => ?_)
  refine z_putF 156 zC10 (Nat.le_of_ble_eq_true rfl) rfl rfl rfl rfl rfl (Or.inr ⟨_, rfl⟩) w_252 dX10_init_153 rfl (fun h39 _ => ?_)
  refine z_aload_n 157 0 dX10_init_156 rfl rfl ?_
  refine z_newO 160 zC8 zdf8 w_187 wn_8 wi_RX8 dX10_init_157 rfl (fun q40 => ?_)
  refine z_dup 161 rfl dX10_init_160 rfl ?_
  refine z_callINv 164 (mX8_init b0 q40.1 q40.2) zyX8_init rfl (List.mem_of_getElem? (i := 8) rfl) rfl rfl wm_yX8_init (Nat.le_of_ble_eq_true rfl) rfl (Nat.le_of_ble_eq_true rfl) dX10_init_161 rfl (fun h41 => ?_)
  refine z_putF 167 zC10 (Nat.le_of_ble_eq_true rfl) rfl rfl rfl rfl rfl (Or.inr ⟨_, rfl⟩) w_253 dX10_init_164 rfl (fun h42 _ => ?_)
  refine z_aload_n 168 0 dX10_init_167 rfl rfl ?_
  refine z_newO 171 zC5 zdf5 w_200 wn_5 wi_RX5 dX10_init_168 rfl (fun q43 => ?_)
  refine z_dup 172 rfl dX10_init_171 rfl ?_
  refine z_callINv 175 (mX5_init b0 q43.1 q43.2) zyX5_init rfl (List.mem_of_getElem? (i := 9) rfl) rfl rfl wm_yX5_init (Nat.le_of_ble_eq_true rfl) rfl (Nat.le_of_ble_eq_true rfl) dX10_init_172 rfl (fun h44 => ?_)
  refine z_putF 178 zC10 (Nat.le_of_ble_eq_true rfl) rfl rfl rfl rfl rfl (Or.inr ⟨_, rfl⟩) w_254 dX10_init_175 rfl (fun h45 _ => ?_)
  refine z_iconst (nI 0) 179 zki_0 dX10_init_178 rfl ?_
  refine z_istore_n (lv2 := [(1, .int (nI 0)), (0, .ref (b0 + x0))]) 180 dX10_init_179 rfl (Nat.le_of_ble_eq_true rfl) rfl ?_
  exact z_sub [1, 0] rfl (BX10_init_180 b0 x0 zfu (nI 0) h45)
-- X10_isSlot
def bX10_isSlot_15 (t0 : Int32) (h : ZH) : Option (Int32 × ZH) :=
  if t0 = 0 ∨ t0 = 1 then some (t0, h) else none
theorem BX10_isSlot_15 (b0 : Nat) (t0 : Int32) (h : ZH) : Zr zi b0 YX10_isSlot 1 15 [] [.int t0] h (bX10_isSlot_15 t0 h) := by
  unfold bX10_isSlot_15
  exact z_zreturn dX10_isSlot_15 rfl
def bX10_isSlot_14 (h : ZH) : Option (Int32 × ZH) :=
  bX10_isSlot_15 (nI 0) h
theorem BX10_isSlot_14 (b0 : Nat) (h : ZH) : Zr zi b0 YX10_isSlot 1 14 [] [] h (bX10_isSlot_14 h) := by
  unfold bX10_isSlot_14
  refine z_iconst (nI 0) 15 zki_0 dX10_isSlot_14 rfl ?_
  exact z_sub [] rfl (BX10_isSlot_15 b0 (nI 0) h )
def fX10_isSlot (x0 : Int32) (h : ZH) : Option (Int32 × ZH) :=
  if x0 < 0 then (bX10_isSlot_14 h) else
  (if (nI 6) ≤ x0 then (bX10_isSlot_14 h) else
  (bX10_isSlot_15 (nI 1) h))
theorem mX10_isSlot (b0 : Nat) (x0 : Int32) (h : ZH) : ZM zi b0 YX10_isSlot 1 [.int x0] h (fX10_isSlot x0 h) := by
  unfold fX10_isSlot
  refine ZM.of (by decide) rfl (Nat.le_of_ble_eq_true rfl) (fun _ => trivial) ?_
  refine z_sub (lv2 := [(0, .int x0)]) [0] rfl ?_
  refine z_iload_n 1 0 dX10_isSlot_0 rfl rfl ?_
  refine z_if_lt 14 4 dX10_isSlot_1 (by decide) rfl (fun c1 => ?_) (fun c1 => ?_)
  · exact z_sub [] rfl (BX10_isSlot_14 b0 h )
  · refine z_iload_n 5 0 dX10_isSlot_4 rfl rfl ?_
    refine z_bipush (nI 6) 7 zkb_6 dX10_isSlot_5 rfl ?_
    refine z_icmp_ge 14 10 dX10_isSlot_7 (by decide) rfl (fun c2 => ?_) (fun c2 => ?_)
    · exact z_sub [] rfl (BX10_isSlot_14 b0 h )
    · refine z_iconst (nI 1) 11 zki_1 dX10_isSlot_10 rfl ?_
      refine z_goto 15 dX10_isSlot_11 (by decide) ?_
      exact z_sub [] rfl (BX10_isSlot_15 b0 (nI 1) h )
-- X10_isEdgeOfSlot
def bX10_isEdgeOfSlot_33 (t0 : Int32) (h : ZH) : Option (Int32 × ZH) :=
  if t0 = 0 ∨ t0 = 1 then some (t0, h) else none
theorem BX10_isEdgeOfSlot_33 (b0 : Nat) (t0 : Int32) (h : ZH) : Zr zi b0 YX10_isEdgeOfSlot 2 33 [] [.int t0] h (bX10_isEdgeOfSlot_33 t0 h) := by
  unfold bX10_isEdgeOfSlot_33
  exact z_zreturn dX10_isEdgeOfSlot_33 rfl
def bX10_isEdgeOfSlot_32 (h : ZH) : Option (Int32 × ZH) :=
  bX10_isEdgeOfSlot_33 (nI 0) h
theorem BX10_isEdgeOfSlot_32 (b0 : Nat) (h : ZH) : Zr zi b0 YX10_isEdgeOfSlot 2 32 [] [] h (bX10_isEdgeOfSlot_32 h) := by
  unfold bX10_isEdgeOfSlot_32
  refine z_iconst (nI 0) 33 zki_0 dX10_isEdgeOfSlot_32 rfl ?_
  exact z_sub [] rfl (BX10_isEdgeOfSlot_33 b0 (nI 0) h )
def fX10_isEdgeOfSlot (x0 : Int32) (x1 : Int32) (x2 : Int32) (x3 : Int32) (h : ZH) : Option (Int32 × ZH) :=
  (fX10_isSlot x0 h).bind fun q1 =>
  if q1.1 = 0 then (bX10_isEdgeOfSlot_32 q1.2) else
  ((fX10_isVertex x1 q1.2).bind fun q3 =>
  if q3.1 = 0 then (bX10_isEdgeOfSlot_32 q3.2) else
  ((fX10_isLetter x2 q3.2).bind fun q5 =>
  if q5.1 = 0 then (bX10_isEdgeOfSlot_32 q5.2) else
  ((fX10_isVertex x3 q5.2).bind fun q7 =>
  if q7.1 = 0 then (bX10_isEdgeOfSlot_32 q7.2) else
  (bX10_isEdgeOfSlot_33 (nI 1) q7.2))))
theorem mX10_isEdgeOfSlot (b0 : Nat) (x0 : Int32) (x1 : Int32) (x2 : Int32) (x3 : Int32) (h : ZH) : ZM zi b0 YX10_isEdgeOfSlot 2 [.int x0, .int x1, .int x2, .int x3] h (fX10_isEdgeOfSlot x0 x1 x2 x3 h) := by
  unfold fX10_isEdgeOfSlot
  refine ZM.of (by decide) rfl (Nat.le_of_ble_eq_true rfl) (fun _ => trivial) ?_
  refine z_sub (lv2 := [(0, .int x0), (1, .int x1), (2, .int x2), (3, .int x3)]) [0, 1, 2, 3] rfl ?_
  refine z_iload_n 1 0 dX10_isEdgeOfSlot_0 rfl rfl ?_
  refine z_callSi 4 (mX10_isSlot b0 x0 h) zyX10_isSlot rfl w_297 wt_yX10_isSlot (Nat.le_of_ble_eq_true rfl) rfl (Nat.le_of_ble_eq_true rfl) dX10_isEdgeOfSlot_1 rfl (fun q1 => ?_)
  refine z_if_eq 32 7 dX10_isEdgeOfSlot_4 (by decide) rfl (fun c2 => ?_) (fun c2 => ?_)
  · exact z_sub [] rfl (BX10_isEdgeOfSlot_32 b0 q1.2 )
  · refine z_iload_n 8 1 dX10_isEdgeOfSlot_7 rfl rfl ?_
    refine z_callSi 11 (mX10_isVertex b0 x1 q1.2) zyX10_isVertex rfl w_300 wt_yX10_isVertex (Nat.le_of_ble_eq_true rfl) rfl (Nat.le_of_ble_eq_true rfl) dX10_isEdgeOfSlot_8 rfl (fun q3 => ?_)
    refine z_if_eq 32 14 dX10_isEdgeOfSlot_11 (by decide) rfl (fun c4 => ?_) (fun c4 => ?_)
    · exact z_sub [] rfl (BX10_isEdgeOfSlot_32 b0 q3.2 )
    · refine z_iload_n 15 2 dX10_isEdgeOfSlot_14 rfl rfl ?_
      refine z_callSi 18 (mX10_isLetter b0 x2 q3.2) zyX10_isLetter rfl w_303 wt_yX10_isLetter (Nat.le_of_ble_eq_true rfl) rfl (Nat.le_of_ble_eq_true rfl) dX10_isEdgeOfSlot_15 rfl (fun q5 => ?_)
      refine z_if_eq 32 21 dX10_isEdgeOfSlot_18 (by decide) rfl (fun c6 => ?_) (fun c6 => ?_)
      · exact z_sub [] rfl (BX10_isEdgeOfSlot_32 b0 q5.2 )
      · refine z_iload_n 22 3 dX10_isEdgeOfSlot_21 rfl rfl ?_
        refine z_callSi 25 (mX10_isVertex b0 x3 q5.2) zyX10_isVertex rfl w_300 wt_yX10_isVertex (Nat.le_of_ble_eq_true rfl) rfl (Nat.le_of_ble_eq_true rfl) dX10_isEdgeOfSlot_22 rfl (fun q7 => ?_)
        refine z_if_eq 32 28 dX10_isEdgeOfSlot_25 (by decide) rfl (fun c8 => ?_) (fun c8 => ?_)
        · exact z_sub [] rfl (BX10_isEdgeOfSlot_32 b0 q7.2 )
        · refine z_iconst (nI 1) 29 zki_1 dX10_isEdgeOfSlot_28 rfl ?_
          refine z_goto 33 dX10_isEdgeOfSlot_29 (by decide) ?_
          exact z_sub [] rfl (BX10_isEdgeOfSlot_33 b0 (nI 1) q7.2 )
-- X10_addEdge
def fX10_addEdge (x0 : Nat) (x1 : Int32) (x2 : Int32) (x3 : Int32) (x4 : Int32) (h : ZH) : Option (Int32 × ZH) :=
  if x0 < zn h ∧ zK h x0 = 10 then ((fX10_isEdgeOfSlot x1 x2 x3 x4 h).bind fun q1 =>
  if q1.1 = 0 then (some ((-2 : Int32), q1.2)) else
  ((gR q1.2 10 x0 3).bind fun v3 =>
  (gR q1.2 10 x0 0).bind fun v4 =>
  (lR q1.2 17 v4 x1).bind fun v5 =>
  (fX2_push v3 x1 v5 q1.2).bind fun h6 =>
  (gR h6 10 x0 0).bind fun v7 =>
  (lR h6 17 v7 x1).bind fun v8 =>
  (fX1_put v8 x2 x3 x4 h6).bind fun h9 =>
  (gR h9 10 x0 0).bind fun v10 =>
  (lR h9 17 v10 x1).bind fun v11 =>
  (fX1_countEdges v11 h9).bind fun q12 =>
  some (q12.1, q12.2))) else none
theorem kX10_addEdge {x0 : Nat} {x1 : Int32} {x2 : Int32} {x3 : Int32} {x4 : Int32} {h : ZH} {x : Int32 × ZH} (e : fX10_addEdge x0 x1 x2 x3 x4 h = some x) : x0 < zn h ∧ zK h x0 = 10 := by
  unfold fX10_addEdge at e
  exact zguard e
theorem mX10_addEdge (b0 : Nat) (x0 : Nat) (x1 : Int32) (x2 : Int32) (x3 : Int32) (x4 : Int32) (h : ZH) : ZM zi b0 YX10_addEdge 4 [.ref (b0 + x0), .int x1, .int x2, .int x3, .int x4] h (fX10_addEdge x0 x1 x2 x3 x4 h) := by
  unfold fX10_addEdge
  refine ZM.of (by decide) rfl (Nat.le_of_ble_eq_true rfl) (fun _ => trivial) ?_
  refine z_sub (lv2 := [(0, .ref (b0 + x0)), (1, .int x1), (2, .int x2), (3, .int x3), (4, .int x4)]) [0, 1, 2, 3, 4] rfl ?_
  refine z_guard (fun _ => ?_)
  refine z_iload_n 1 1 dX10_addEdge_0 rfl rfl ?_
  refine z_iload_n 2 2 dX10_addEdge_1 rfl rfl ?_
  refine z_iload_n 3 3 dX10_addEdge_2 rfl rfl ?_
  refine z_iload 5 4 dX10_addEdge_3 rfl rfl ?_
  refine z_callSi 8 (mX10_isEdgeOfSlot b0 x1 x2 x3 x4 h) zyX10_isEdgeOfSlot rfl w_294 wt_yX10_isEdgeOfSlot (Nat.le_of_ble_eq_true rfl) rfl (Nat.le_of_ble_eq_true rfl) dX10_addEdge_5 rfl (fun q1 => ?_)
  refine z_if_ne 14 11 dX10_addEdge_8 (by decide) rfl (fun c2 => ?_) (fun c2 => ?_)
  · refine z_aload_n 15 0 dX10_addEdge_14 rfl rfl ?_
    refine z_getR 18 zC10 (Nat.le_of_ble_eq_true rfl) rfl w_241 dX10_addEdge_15 rfl (fun v3 _ => ?_)
    refine z_iload_n 19 1 dX10_addEdge_18 rfl rfl ?_
    refine z_aload_n 20 0 dX10_addEdge_19 rfl rfl ?_
    refine z_getR 23 zC10 (Nat.le_of_ble_eq_true rfl) rfl w_238 dX10_addEdge_20 rfl (fun v4 _ => ?_)
    refine z_iload_n 24 1 dX10_addEdge_23 rfl rfl ?_
    refine z_aaload17 25 dX10_addEdge_24 rfl (fun v5 _ => ?_)
    refine z_callVv 28 (mX2_push b0 v3 x1 v5 q1.2) zyX2_push rfl w_306 (ci := 2) rfl (Nat.le_of_ble_eq_true rfl) (fun _ e9 => kX2_push e9) wm_yX2_push ws_yX2_push (Nat.le_of_ble_eq_true rfl) rfl (Nat.le_of_ble_eq_true rfl) dX10_addEdge_25 rfl (fun h6 => ?_)
    refine z_aload_n 29 0 dX10_addEdge_28 rfl rfl ?_
    refine z_getR 32 zC10 (Nat.le_of_ble_eq_true rfl) rfl w_238 dX10_addEdge_29 rfl (fun v7 _ => ?_)
    refine z_iload_n 33 1 dX10_addEdge_32 rfl rfl ?_
    refine z_aaload17 34 dX10_addEdge_33 rfl (fun v8 _ => ?_)
    refine z_iload_n 35 2 dX10_addEdge_34 rfl rfl ?_
    refine z_iload_n 36 3 dX10_addEdge_35 rfl rfl ?_
    refine z_iload 38 4 dX10_addEdge_36 rfl rfl ?_
    refine z_callVv 41 (mX1_put b0 v8 x2 x3 x4 h6) zyX1_put rfl w_323 (ci := 1) rfl (Nat.le_of_ble_eq_true rfl) (fun _ e9 => kX1_put e9) wm_yX1_put ws_yX1_put (Nat.le_of_ble_eq_true rfl) rfl (Nat.le_of_ble_eq_true rfl) dX10_addEdge_38 rfl (fun h9 => ?_)
    refine z_aload_n 42 0 dX10_addEdge_41 rfl rfl ?_
    refine z_getR 45 zC10 (Nat.le_of_ble_eq_true rfl) rfl w_238 dX10_addEdge_42 rfl (fun v10 _ => ?_)
    refine z_iload_n 46 1 dX10_addEdge_45 rfl rfl ?_
    refine z_aaload17 47 dX10_addEdge_46 rfl (fun v11 _ => ?_)
    refine z_callVi 50 (mX1_countEdges b0 v11 h9) zyX1_countEdges rfl w_333 (ci := 1) rfl (Nat.le_of_ble_eq_true rfl) (fun _ e9 => kX1_countEdges e9) wm_yX1_countEdges ws_yX1_countEdges (Nat.le_of_ble_eq_true rfl) rfl (Nat.le_of_ble_eq_true rfl) dX10_addEdge_47 rfl (fun q12 => ?_)
    exact z_ireturn dX10_addEdge_50 rfl
  · refine z_bipush (-2 : Int32) 13 zkb_m2 dX10_addEdge_11 rfl ?_
    exact z_ireturn dX10_addEdge_13 rfl
