-- X0_targetInMerged
def kX0_targetInMerged_2 (x0 : Nat) (x1 : Int32) (x2 : Int32) (self2 : Int32 × ZH → Option (Int32 × ZH)) (x3 : Int32) (h : ZH) : Option (Int32 × ZH) :=
  if (nI 8) ≤ x3 then (some ((-1 : Int32), h)) else
  ((gR h 0 x0 8).bind fun v2 =>
  (fX1_has v2 x1 x2 x3 h).bind fun q3 =>
  if q3.1 = 0 then (self2 ((x3 + (nI 1)), q3.2)) else
  (some (x3, q3.2)))
def lX0_targetInMerged_2 (x0 : Nat) (x1 : Int32) (x2 : Int32) : (Int32 × ZH → Option (Int32 × ZH)) → Int32 × ZH → Option (Int32 × ZH) := fun self s => kX0_targetInMerged_2 x0 x1 x2 self s.1 s.2
theorem KX0_targetInMerged_2 (b0 : Nat) (x0 : Nat) (x1 : Int32) (x2 : Int32) (self2 : Int32 × ZH → Option (Int32 × ZH)) (hself2 : ∀ (y3 : Int32) (hh : ZH), Zr zi b0 YX0_targetInMerged 3 2 [(0, .ref (b0 + x0)), (1, .int x1), (2, .int x2), (3, .int y3)] [] hh (self2 (y3, hh))) (x3 : Int32) (h : ZH) : Zr zi b0 YX0_targetInMerged 3 2 [(0, .ref (b0 + x0)), (1, .int x1), (2, .int x2), (3, .int x3)] [] h (kX0_targetInMerged_2 x0 x1 x2 self2 x3 h) := by
  unfold kX0_targetInMerged_2
  refine z_iload_n 3 3 dX0_targetInMerged_2 rfl rfl ?_
  refine z_bipush (nI 8) 5 zkb_8 dX0_targetInMerged_3 rfl ?_
  refine z_icmp_ge 29 8 dX0_targetInMerged_5 (by decide) rfl (fun c1 => ?_) (fun c1 => ?_)
  · refine z_iconst (-1 : Int32) 30 zki_m1 dX0_targetInMerged_29 rfl ?_
    exact z_ireturn dX0_targetInMerged_30 rfl
  · refine z_aload_n 9 0 dX0_targetInMerged_8 rfl rfl ?_
    refine z_getR 12 zC0 (Nat.le_of_ble_eq_true rfl) rfl w_151 dX0_targetInMerged_9 rfl (fun v2 _ => ?_)
    refine z_iload_n 13 1 dX0_targetInMerged_12 rfl rfl ?_
    refine z_iload_n 14 2 dX0_targetInMerged_13 rfl rfl ?_
    refine z_iload_n 15 3 dX0_targetInMerged_14 rfl rfl ?_
    refine z_callVi 18 (mX1_has b0 v2 x1 x2 x3 h) zyX1_has rfl w_718 (ci := 1) rfl (Nat.le_of_ble_eq_true rfl) (fun _ e9 => kX1_has e9) wm_yX1_has ws_yX1_has (Nat.le_of_ble_eq_true rfl) rfl (Nat.le_of_ble_eq_true rfl) dX0_targetInMerged_15 rfl (fun q3 => ?_)
    refine z_if_eq 23 21 dX0_targetInMerged_18 (by decide) rfl (fun c4 => ?_) (fun c4 => ?_)
    · refine z_iinc (lv2 := [(3, .int (x3 + (nI 1))), (0, .ref (b0 + x0)), (1, .int x1), (2, .int x2)]) (nI 1) 26 3 dX0_targetInMerged_23 rfl rfl zki_1 (Nat.le_of_ble_eq_true rfl) rfl ?_
      refine z_goto 2 dX0_targetInMerged_26 (by decide) ?_
      exact z_sub [1, 2, 3, 0] rfl (hself2 (x3 + (nI 1)) q3.2)
    · refine z_iload_n 22 3 dX0_targetInMerged_21 rfl rfl ?_
      exact z_ireturn dX0_targetInMerged_22 rfl
theorem BX0_targetInMerged_2 (b0 : Nat) (x0 : Nat) (x1 : Int32) (x2 : Int32) (n : Nat) (x3 : Int32) (h : ZH) : Zr zi b0 YX0_targetInMerged 3 2 [(0, .ref (b0 + x0)), (1, .int x1), (2, .int x2), (3, .int x3)] [] h (zloop (lX0_targetInMerged_2 x0 x1 x2) n (x3, h)) :=
  zloop_Zr (fun s => [(0, .ref (b0 + x0)), (1, .int x1), (2, .int x2), (3, .int s.1)]) (fun _ => []) (fun s => s.2) (lX0_targetInMerged_2 x0 x1 x2) (fun self hs s => KX0_targetInMerged_2 b0 x0 x1 x2 self (fun y3 hh => hs (y3, hh)) s.1 s.2) n (x3, h)
def fX0_targetInMerged (x0 : Nat) (x1 : Int32) (x2 : Int32) (h : ZH) : Option (Int32 × ZH) :=
  if x0 < zn h ∧ zK h x0 = 0 then (zloop (lX0_targetInMerged_2 x0 x1 x2) zfu ((nI 0), h)) else none
theorem kX0_targetInMerged {x0 : Nat} {x1 : Int32} {x2 : Int32} {h : ZH} {x : Int32 × ZH} (e : fX0_targetInMerged x0 x1 x2 h = some x) : x0 < zn h ∧ zK h x0 = 0 := by
  unfold fX0_targetInMerged at e
  exact zguard e
theorem mX0_targetInMerged (b0 : Nat) (x0 : Nat) (x1 : Int32) (x2 : Int32) (h : ZH) : ZM zi b0 YX0_targetInMerged 3 [.ref (b0 + x0), .int x1, .int x2] h (fX0_targetInMerged x0 x1 x2 h) := by
  unfold fX0_targetInMerged
  refine ZM.of (by decide) rfl (Nat.le_of_ble_eq_true rfl) (fun _ => trivial) ?_
  refine z_sub (lv2 := [(0, .ref (b0 + x0)), (1, .int x1), (2, .int x2)]) [0, 1, 2] rfl ?_
  refine z_guard (fun _ => ?_)
  refine z_iconst (nI 0) 1 zki_0 dX0_targetInMerged_0 rfl ?_
  refine z_istore_n (lv2 := [(3, .int (nI 0)), (0, .ref (b0 + x0)), (1, .int x1), (2, .int x2)]) 2 dX0_targetInMerged_1 rfl (Nat.le_of_ble_eq_true rfl) rfl ?_
  exact z_sub [1, 2, 3, 0] rfl (BX0_targetInMerged_2 b0 x0 x1 x2 zfu (nI 0) h)
-- X0_numberVertices
def bX0_numberVertices_141 (h : ZH) : Option (ZH) :=
  some h
theorem BX0_numberVertices_141 (b0 : Nat) (h : ZH) : Zr zv b0 YX0_numberVertices 4 141 [] [] h (bX0_numberVertices_141 h) := by
  unfold bX0_numberVertices_141
  exact z_return dX0_numberVertices_141 rfl
def bX0_numberVertices_129 (self62 : Int32 × Int32 × ZH → Option (ZH)) (self75 : Int32 × Int32 × ZH → Option (ZH)) (x0 : Nat) (x1 : Int32) (x2 : Int32) (x3 : Int32) (h : ZH) : Option (ZH) :=
  self75 (x1, (x3 + (nI 1)), h)
theorem BX0_numberVertices_129 (b0 : Nat) (self62 : Int32 × Int32 × ZH → Option (ZH)) (self75 : Int32 × Int32 × ZH → Option (ZH)) (x0 : Nat) (x1 : Int32) (x2 : Int32) (x3 : Int32) (h : ZH) (hself62 : ∀ (y1 : Int32) (y2 : Int32) (hh : ZH), Zr zv b0 YX0_numberVertices 4 62 [(0, .ref (b0 + x0)), (1, .int y1), (2, .int y2)] [] hh (self62 (y1, y2, hh))) (hself75 : ∀ (y1 : Int32) (y3 : Int32) (hh : ZH), Zr zv b0 YX0_numberVertices 4 75 [(0, .ref (b0 + x0)), (2, .int x2), (1, .int y1), (3, .int y3)] [] hh (self75 (y1, y3, hh))) : Zr zv b0 YX0_numberVertices 4 129 [(0, .ref (b0 + x0)), (1, .int x1), (2, .int x2), (3, .int x3)] [] h (bX0_numberVertices_129 self62 self75 x0 x1 x2 x3 h) := by
  unfold bX0_numberVertices_129
  refine z_iinc (lv2 := [(3, .int (x3 + (nI 1))), (0, .ref (b0 + x0)), (1, .int x1), (2, .int x2)]) (nI 1) 132 3 dX0_numberVertices_129 rfl rfl zki_1 (Nat.le_of_ble_eq_true rfl) rfl ?_
  refine z_goto 75 dX0_numberVertices_132 (by decide) ?_
  exact z_sub [1, 3, 2, 0] rfl (hself75 x1 (x3 + (nI 1)) h)
def kX0_numberVertices_75 (self62 : Int32 × Int32 × ZH → Option (ZH)) (x0 : Nat) (x2 : Int32) (self75 : Int32 × Int32 × ZH → Option (ZH)) (x1 : Int32) (x3 : Int32) (h : ZH) : Option (ZH) :=
  if (nI 4) ≤ x3 then (self62 (x1, (x2 + (nI 1)), h)) else
  ((gR h 0 x0 11).bind fun v2 =>
  (lI h 14 v2 x2).bind fun v3 =>
  (fX0_targetInMerged x0 v3 x3 h).bind fun q4 =>
  if q4.1 < 0 then (bX0_numberVertices_129 self62 self75 x0 x1 x2 x3 q4.2) else
  (if (nI 8) ≤ q4.1 then (bX0_numberVertices_129 self62 self75 x0 x1 x2 x3 q4.2) else
  ((fX0_numberVertex x0 q4.1 x1 q4.2).bind fun q7 =>
  (gR q7.2 0 x0 13).bind fun v8 =>
  (gR q7.2 0 x0 12).bind fun v9 =>
  (lI q7.2 14 v9 q4.1).bind fun v10 =>
  (fX1_put v8 x2 x3 v10 q7.2).bind fun h11 =>
  bX0_numberVertices_129 self62 self75 x0 q7.1 x2 x3 h11)))
def lX0_numberVertices_75 (self62 : Int32 × Int32 × ZH → Option (ZH)) (x0 : Nat) (x2 : Int32) : (Int32 × Int32 × ZH → Option (ZH)) → Int32 × Int32 × ZH → Option (ZH) := fun self s => kX0_numberVertices_75 self62 x0 x2 self s.1 s.2.1 s.2.2
theorem KX0_numberVertices_75 (b0 : Nat) (self62 : Int32 × Int32 × ZH → Option (ZH)) (x0 : Nat) (x2 : Int32) (hself62 : ∀ (y1 : Int32) (y2 : Int32) (hh : ZH), Zr zv b0 YX0_numberVertices 4 62 [(0, .ref (b0 + x0)), (1, .int y1), (2, .int y2)] [] hh (self62 (y1, y2, hh))) (self75 : Int32 × Int32 × ZH → Option (ZH)) (hself75 : ∀ (y1 : Int32) (y3 : Int32) (hh : ZH), Zr zv b0 YX0_numberVertices 4 75 [(0, .ref (b0 + x0)), (2, .int x2), (1, .int y1), (3, .int y3)] [] hh (self75 (y1, y3, hh))) (x1 : Int32) (x3 : Int32) (h : ZH) : Zr zv b0 YX0_numberVertices 4 75 [(0, .ref (b0 + x0)), (2, .int x2), (1, .int x1), (3, .int x3)] [] h (kX0_numberVertices_75 self62 x0 x2 self75 x1 x3 h) := by
  unfold kX0_numberVertices_75
  refine z_iload_n 76 3 dX0_numberVertices_75 rfl rfl ?_
  refine z_iconst (nI 4) 77 zki_4 dX0_numberVertices_76 rfl ?_
  refine z_icmp_ge 135 80 dX0_numberVertices_77 (by decide) rfl (fun c1 => ?_) (fun c1 => ?_)
  · refine z_iinc (lv2 := [(2, .int (x2 + (nI 1))), (0, .ref (b0 + x0)), (1, .int x1), (3, .int x3)]) (nI 1) 138 1 dX0_numberVertices_135 rfl rfl zki_1 (Nat.le_of_ble_eq_true rfl) rfl ?_
    refine z_goto 62 dX0_numberVertices_138 (by decide) ?_
    exact z_sub [1, 2, 0] rfl (hself62 x1 (x2 + (nI 1)) h)
  · refine z_aload_n 81 0 dX0_numberVertices_80 rfl rfl ?_
    refine z_aload_n 82 0 dX0_numberVertices_81 rfl rfl ?_
    refine z_getR 85 zC0 (Nat.le_of_ble_eq_true rfl) rfl w_154 dX0_numberVertices_82 rfl (fun v2 _ => ?_)
    refine z_iload_n 86 1 dX0_numberVertices_85 rfl rfl ?_
    refine z_iaload 87 dX0_numberVertices_86 rfl (fun v3 _ => ?_)
    refine z_iload_n 88 3 dX0_numberVertices_87 rfl rfl ?_
    refine z_callVi 91 (mX0_targetInMerged b0 x0 v3 x3 h) zyX0_targetInMerged rfl w_714 (ci := 0) rfl (Nat.le_of_ble_eq_true rfl) (fun _ e9 => kX0_targetInMerged e9) wm_yX0_targetInMerged ws_yX0_targetInMerged (Nat.le_of_ble_eq_true rfl) rfl (Nat.le_of_ble_eq_true rfl) dX0_numberVertices_88 rfl (fun q4 => ?_)
    refine z_istore (lv2 := [(4, .int q4.1), (0, .ref (b0 + x0)), (2, .int x2), (1, .int x1), (3, .int x3)]) 93 dX0_numberVertices_91 rfl (Nat.le_of_ble_eq_true rfl) rfl ?_
    refine z_iload 95 0 dX0_numberVertices_93 rfl rfl ?_
    refine z_if_lt 129 98 dX0_numberVertices_95 (by decide) rfl (fun c5 => ?_) (fun c5 => ?_)
    · exact z_sub [1, 3, 2, 4] rfl (BX0_numberVertices_129 b0 self62 self75 x0 x1 x2 x3 q4.2 hself62 hself75)
    · refine z_iload 100 0 dX0_numberVertices_98 rfl rfl ?_
      refine z_bipush (nI 8) 102 zkb_8 dX0_numberVertices_100 rfl ?_
      refine z_icmp_ge 129 105 dX0_numberVertices_102 (by decide) rfl (fun c6 => ?_) (fun c6 => ?_)
      · exact z_sub [1, 3, 2, 4] rfl (BX0_numberVertices_129 b0 self62 self75 x0 x1 x2 x3 q4.2 hself62 hself75)
      · refine z_aload_n 106 1 dX0_numberVertices_105 rfl rfl ?_
        refine z_iload 108 0 dX0_numberVertices_106 rfl rfl ?_
        refine z_iload_n 109 3 dX0_numberVertices_108 rfl rfl ?_
        refine z_callVi 112 (mX0_numberVertex b0 x0 q4.1 x1 q4.2) zyX0_numberVertex rfl w_709 (ci := 0) rfl (Nat.le_of_ble_eq_true rfl) (fun _ e9 => kX0_numberVertex e9) wm_yX0_numberVertex ws_yX0_numberVertex (Nat.le_of_ble_eq_true rfl) rfl (Nat.le_of_ble_eq_true rfl) dX0_numberVertices_109 rfl (fun q7 => ?_)
        refine z_istore_n (lv2 := [(1, .int q7.1), (4, .int q4.1), (0, .ref (b0 + x0)), (2, .int x2), (3, .int x3)]) 113 dX0_numberVertices_112 rfl (Nat.le_of_ble_eq_true rfl) rfl ?_
        refine z_aload_n 114 2 dX0_numberVertices_113 rfl rfl ?_
        refine z_getR 117 zC0 (Nat.le_of_ble_eq_true rfl) rfl w_156 dX0_numberVertices_114 rfl (fun v8 _ => ?_)
        refine z_iload_n 118 3 dX0_numberVertices_117 rfl rfl ?_
        refine z_iload_n 119 4 dX0_numberVertices_118 rfl rfl ?_
        refine z_aload_n 120 2 dX0_numberVertices_119 rfl rfl ?_
        refine z_getR 123 zC0 (Nat.le_of_ble_eq_true rfl) rfl w_155 dX0_numberVertices_120 rfl (fun v9 _ => ?_)
        refine z_iload 125 1 dX0_numberVertices_123 rfl rfl ?_
        refine z_iaload 126 dX0_numberVertices_125 rfl (fun v10 _ => ?_)
        refine z_callVv 129 (mX1_put b0 v8 x2 x3 v10 q7.2) zyX1_put rfl w_693 (ci := 1) rfl (Nat.le_of_ble_eq_true rfl) (fun _ e9 => kX1_put e9) wm_yX1_put ws_yX1_put (Nat.le_of_ble_eq_true rfl) rfl (Nat.le_of_ble_eq_true rfl) dX0_numberVertices_126 rfl (fun h11 => ?_)
        exact z_sub [2, 0, 3, 4] rfl (BX0_numberVertices_129 b0 self62 self75 x0 q7.1 x2 x3 h11 hself62 hself75)
theorem BX0_numberVertices_75 (b0 : Nat) (self62 : Int32 × Int32 × ZH → Option (ZH)) (x0 : Nat) (x2 : Int32) (hself62 : ∀ (y1 : Int32) (y2 : Int32) (hh : ZH), Zr zv b0 YX0_numberVertices 4 62 [(0, .ref (b0 + x0)), (1, .int y1), (2, .int y2)] [] hh (self62 (y1, y2, hh))) (n : Nat) (x1 : Int32) (x3 : Int32) (h : ZH) : Zr zv b0 YX0_numberVertices 4 75 [(0, .ref (b0 + x0)), (2, .int x2), (1, .int x1), (3, .int x3)] [] h (zloop (lX0_numberVertices_75 self62 x0 x2) n (x1, x3, h)) :=
  zloop_Zr (fun s => [(0, .ref (b0 + x0)), (2, .int x2), (1, .int s.1), (3, .int s.2.1)]) (fun _ => []) (fun s => s.2.2) (lX0_numberVertices_75 self62 x0 x2) (fun self hs s => KX0_numberVertices_75 b0 self62 x0 x2 hself62 self (fun y1 y3 hh => hs (y1, y3, hh)) s.1 s.2.1 s.2.2) n (x1, x3, h)
def kX0_numberVertices_62 (x0 : Nat) (self62 : Int32 × Int32 × ZH → Option (ZH)) (x1 : Int32) (x2 : Int32) (h : ZH) : Option (ZH) :=
  if x1 ≤ x2 then (bX0_numberVertices_141 h) else
  (if (nI 8) ≤ x2 then (bX0_numberVertices_141 h) else
  (zloop (lX0_numberVertices_75 self62 x0 x2) zfu (x1, (nI 0), h)))
def lX0_numberVertices_62 (x0 : Nat) : (Int32 × Int32 × ZH → Option (ZH)) → Int32 × Int32 × ZH → Option (ZH) := fun self s => kX0_numberVertices_62 x0 self s.1 s.2.1 s.2.2
theorem KX0_numberVertices_62 (b0 : Nat) (x0 : Nat) (self62 : Int32 × Int32 × ZH → Option (ZH)) (hself62 : ∀ (y1 : Int32) (y2 : Int32) (hh : ZH), Zr zv b0 YX0_numberVertices 4 62 [(0, .ref (b0 + x0)), (1, .int y1), (2, .int y2)] [] hh (self62 (y1, y2, hh))) (x1 : Int32) (x2 : Int32) (h : ZH) : Zr zv b0 YX0_numberVertices 4 62 [(0, .ref (b0 + x0)), (1, .int x1), (2, .int x2)] [] h (kX0_numberVertices_62 x0 self62 x1 x2 h) := by
  unfold kX0_numberVertices_62
  refine z_iload_n 63 2 dX0_numberVertices_62 rfl rfl ?_
  refine z_iload_n 64 1 dX0_numberVertices_63 rfl rfl ?_
  refine z_icmp_ge 141 67 dX0_numberVertices_64 (by decide) rfl (fun c1 => ?_) (fun c1 => ?_)
  · exact z_sub [] rfl (BX0_numberVertices_141 b0 h )
  · refine z_iload_n 68 2 dX0_numberVertices_67 rfl rfl ?_
    refine z_bipush (nI 8) 70 zkb_8 dX0_numberVertices_68 rfl ?_
    refine z_icmp_ge 141 73 dX0_numberVertices_70 (by decide) rfl (fun c2 => ?_) (fun c2 => ?_)
    · exact z_sub [] rfl (BX0_numberVertices_141 b0 h )
    · refine z_iconst (nI 0) 74 zki_0 dX0_numberVertices_73 rfl ?_
      refine z_istore_n (lv2 := [(3, .int (nI 0)), (0, .ref (b0 + x0)), (1, .int x1), (2, .int x2)]) 75 dX0_numberVertices_74 rfl (Nat.le_of_ble_eq_true rfl) rfl ?_
      exact z_sub [1, 3, 2, 0] rfl (BX0_numberVertices_75 b0 self62 x0 x2 hself62 zfu x1 (nI 0) h)
theorem BX0_numberVertices_62 (b0 : Nat) (x0 : Nat) (n : Nat) (x1 : Int32) (x2 : Int32) (h : ZH) : Zr zv b0 YX0_numberVertices 4 62 [(0, .ref (b0 + x0)), (1, .int x1), (2, .int x2)] [] h (zloop (lX0_numberVertices_62 x0) n (x1, x2, h)) :=
  zloop_Zr (fun s => [(0, .ref (b0 + x0)), (1, .int s.1), (2, .int s.2.1)]) (fun _ => []) (fun s => s.2.2) (lX0_numberVertices_62 x0) (fun self hs s => KX0_numberVertices_62 b0 x0 self (fun y1 y2 hh => hs (y1, y2, hh)) s.1 s.2.1 s.2.2) n (x1, x2, h)
def bX0_numberVertices_60 (x0 : Nat) (x1 : Int32) (h : ZH) : Option (ZH) :=
  zloop (lX0_numberVertices_62 x0) zfu (x1, (nI 0), h)
theorem BX0_numberVertices_60 (b0 : Nat) (x0 : Nat) (x1 : Int32) (h : ZH) : Zr zv b0 YX0_numberVertices 4 60 [(0, .ref (b0 + x0)), (1, .int x1)] [] h (bX0_numberVertices_60 x0 x1 h) := by
  unfold bX0_numberVertices_60
  refine z_iconst (nI 0) 61 zki_0 dX0_numberVertices_60 rfl ?_
  refine z_istore_n (lv2 := [(2, .int (nI 0)), (0, .ref (b0 + x0)), (1, .int x1)]) 62 dX0_numberVertices_61 rfl (Nat.le_of_ble_eq_true rfl) rfl ?_
  exact z_sub [1, 2, 0] rfl (BX0_numberVertices_62 b0 x0 zfu x1 (nI 0) h)
def bX0_numberVertices_54 (self19 : Int32 × Int32 × ZH → Option (ZH)) (x0 : Nat) (x1 : Int32) (x2 : Int32) (h : ZH) : Option (ZH) :=
  self19 (x1, (x2 + (nI 1)), h)
theorem BX0_numberVertices_54 (b0 : Nat) (self19 : Int32 × Int32 × ZH → Option (ZH)) (x0 : Nat) (x1 : Int32) (x2 : Int32) (h : ZH) (hself19 : ∀ (y1 : Int32) (y2 : Int32) (hh : ZH), Zr zv b0 YX0_numberVertices 4 19 [(0, .ref (b0 + x0)), (1, .int y1), (2, .int y2)] [] hh (self19 (y1, y2, hh))) : Zr zv b0 YX0_numberVertices 4 54 [(0, .ref (b0 + x0)), (1, .int x1), (2, .int x2)] [] h (bX0_numberVertices_54 self19 x0 x1 x2 h) := by
  unfold bX0_numberVertices_54
  refine z_iinc (lv2 := [(2, .int (x2 + (nI 1))), (0, .ref (b0 + x0)), (1, .int x1)]) (nI 1) 57 2 dX0_numberVertices_54 rfl rfl zki_1 (Nat.le_of_ble_eq_true rfl) rfl ?_
  refine z_goto 19 dX0_numberVertices_57 (by decide) ?_
  exact z_sub [1, 2, 0] rfl (hself19 x1 (x2 + (nI 1)) h)
def kX0_numberVertices_19 (x0 : Nat) (self19 : Int32 × Int32 × ZH → Option (ZH)) (x1 : Int32) (x2 : Int32) (h : ZH) : Option (ZH) :=
  if (nI 8) ≤ x2 then (bX0_numberVertices_60 x0 x1 h) else
  (if x1 = 0 then ((gR h 0 x0 9).bind fun v3 =>
  (gI h 0 x0 10).bind fun v4 =>
  (fX6_set v3 v4 h).bind fun q5 =>
  if ((jshr q5.1 x2) &&& (nI 1)) = 0 then (bX0_numberVertices_54 self19 x0 x1 x2 q5.2) else
  ((fX0_numberVertex x0 x2 x1 q5.2).bind fun q7 =>
  bX0_numberVertices_54 self19 x0 q7.1 x2 q7.2)) else
  (bX0_numberVertices_60 x0 x1 h))
def lX0_numberVertices_19 (x0 : Nat) : (Int32 × Int32 × ZH → Option (ZH)) → Int32 × Int32 × ZH → Option (ZH) := fun self s => kX0_numberVertices_19 x0 self s.1 s.2.1 s.2.2
theorem KX0_numberVertices_19 (b0 : Nat) (x0 : Nat) (self19 : Int32 × Int32 × ZH → Option (ZH)) (hself19 : ∀ (y1 : Int32) (y2 : Int32) (hh : ZH), Zr zv b0 YX0_numberVertices 4 19 [(0, .ref (b0 + x0)), (1, .int y1), (2, .int y2)] [] hh (self19 (y1, y2, hh))) (x1 : Int32) (x2 : Int32) (h : ZH) : Zr zv b0 YX0_numberVertices 4 19 [(0, .ref (b0 + x0)), (1, .int x1), (2, .int x2)] [] h (kX0_numberVertices_19 x0 self19 x1 x2 h) := by
  unfold kX0_numberVertices_19
  refine z_iload_n 20 2 dX0_numberVertices_19 rfl rfl ?_
  refine z_bipush (nI 8) 22 zkb_8 dX0_numberVertices_20 rfl ?_
  refine z_icmp_ge 60 25 dX0_numberVertices_22 (by decide) rfl (fun c1 => ?_) (fun c1 => ?_)
  · exact z_sub [0, 1] rfl (BX0_numberVertices_60 b0 x0 x1 h )
  · refine z_iload_n 26 1 dX0_numberVertices_25 rfl rfl ?_
    refine z_if_ne 60 29 dX0_numberVertices_26 (by decide) rfl (fun c2 => ?_) (fun c2 => ?_)
    · exact z_sub [0, 1] rfl (BX0_numberVertices_60 b0 x0 x1 h )
    · refine z_aload_n 30 0 dX0_numberVertices_29 rfl rfl ?_
      refine z_getR 33 zC0 (Nat.le_of_ble_eq_true rfl) rfl w_152 dX0_numberVertices_30 rfl (fun v3 _ => ?_)
      refine z_aload_n 34 0 dX0_numberVertices_33 rfl rfl ?_
      refine z_getI 37 zC0 (Nat.le_of_ble_eq_true rfl) rfl w_153 dX0_numberVertices_34 rfl (fun v4 _ => ?_)
      refine z_callVi 40 (mX6_set b0 v3 v4 h) zyX6_set rfl w_699 (ci := 6) rfl (Nat.le_of_ble_eq_true rfl) (fun _ e9 => kX6_set e9) wm_yX6_set ws_yX6_set (Nat.le_of_ble_eq_true rfl) rfl (Nat.le_of_ble_eq_true rfl) dX0_numberVertices_37 rfl (fun q5 => ?_)
      refine z_iload_n 41 2 dX0_numberVertices_40 rfl rfl ?_
      refine z_ishr 42 dX0_numberVertices_41 rfl ?_
      refine z_iconst (nI 1) 43 zki_1 dX0_numberVertices_42 rfl ?_
      refine z_iand 44 dX0_numberVertices_43 rfl ?_
      refine z_if_eq 54 47 dX0_numberVertices_44 (by decide) rfl (fun c6 => ?_) (fun c6 => ?_)
      · exact z_sub [0, 1, 2] rfl (BX0_numberVertices_54 b0 self19 x0 x1 x2 q5.2 hself19)
      · refine z_aload_n 48 0 dX0_numberVertices_47 rfl rfl ?_
        refine z_iload_n 49 2 dX0_numberVertices_48 rfl rfl ?_
        refine z_iload_n 50 1 dX0_numberVertices_49 rfl rfl ?_
        refine z_callVi 53 (mX0_numberVertex b0 x0 x2 x1 q5.2) zyX0_numberVertex rfl w_709 (ci := 0) rfl (Nat.le_of_ble_eq_true rfl) (fun _ e9 => kX0_numberVertex e9) wm_yX0_numberVertex ws_yX0_numberVertex (Nat.le_of_ble_eq_true rfl) rfl (Nat.le_of_ble_eq_true rfl) dX0_numberVertices_50 rfl (fun q7 => ?_)
        refine z_istore_n (lv2 := [(1, .int q7.1), (0, .ref (b0 + x0)), (2, .int x2)]) 54 dX0_numberVertices_53 rfl (Nat.le_of_ble_eq_true rfl) rfl ?_
        exact z_sub [1, 0, 2] rfl (BX0_numberVertices_54 b0 self19 x0 q7.1 x2 q7.2 hself19)
theorem BX0_numberVertices_19 (b0 : Nat) (x0 : Nat) (n : Nat) (x1 : Int32) (x2 : Int32) (h : ZH) : Zr zv b0 YX0_numberVertices 4 19 [(0, .ref (b0 + x0)), (1, .int x1), (2, .int x2)] [] h (zloop (lX0_numberVertices_19 x0) n (x1, x2, h)) :=
  zloop_Zr (fun s => [(0, .ref (b0 + x0)), (1, .int s.1), (2, .int s.2.1)]) (fun _ => []) (fun s => s.2.2) (lX0_numberVertices_19 x0) (fun self hs s => KX0_numberVertices_19 b0 x0 self (fun y1 y2 hh => hs (y1, y2, hh)) s.1 s.2.1 s.2.2) n (x1, x2, h)
def fX0_numberVertices (x0 : Nat) (h : ZH) : Option (ZH) :=
  if x0 < zn h ∧ zK h x0 = 0 then ((gR h 0 x0 13).bind fun v1 =>
  (fX1_clear v1 h).bind fun h2 =>
  (gR h2 0 x0 12).bind fun v3 =>
  (fJ7_fill_53178 v3 (-1 : Int32) h2).bind fun h4 =>
  zloop (lX0_numberVertices_19 x0) zfu ((nI 0), (nI 0), h4)) else none
theorem kX0_numberVertices {x0 : Nat} {h : ZH} {x : ZH} (e : fX0_numberVertices x0 h = some x) : x0 < zn h ∧ zK h x0 = 0 := by
  unfold fX0_numberVertices at e
  exact zguard e
theorem mX0_numberVertices (b0 : Nat) (x0 : Nat) (h : ZH) : ZM zv b0 YX0_numberVertices 4 [.ref (b0 + x0)] h (fX0_numberVertices x0 h) := by
  unfold fX0_numberVertices
  refine ZM.of (by decide) rfl (Nat.le_of_ble_eq_true rfl) (fun _ => trivial) ?_
  refine z_sub (lv2 := [(0, .ref (b0 + x0))]) [0] rfl ?_
  refine z_guard (fun _ => ?_)
  refine z_aload_n 1 0 dX0_numberVertices_0 rfl rfl ?_
  refine z_getR 4 zC0 (Nat.le_of_ble_eq_true rfl) rfl w_156 dX0_numberVertices_1 rfl (fun v1 _ => ?_)
  refine z_callVv 7 (mX1_clear b0 v1 h) zyX1_clear rfl w_692 (ci := 1) rfl (Nat.le_of_ble_eq_true rfl) (fun _ e9 => kX1_clear e9) wm_yX1_clear ws_yX1_clear (Nat.le_of_ble_eq_true rfl) rfl (Nat.le_of_ble_eq_true rfl) dX0_numberVertices_4 rfl (fun h2 => ?_)
  refine z_aload_n 8 0 dX0_numberVertices_7 rfl rfl ?_
  refine z_getR 11 zC0 (Nat.le_of_ble_eq_true rfl) rfl w_155 dX0_numberVertices_8 rfl (fun v3 _ => ?_)
  refine z_iconst (-1 : Int32) 12 zki_m1 dX0_numberVertices_11 rfl ?_
  refine z_callSv 15 (mJ7_fill_53178 b0 v3 (-1 : Int32) h2) zyJ7_fill_53178 rfl w_708 wt_yJ7_fill_53178 (Nat.le_of_ble_eq_true rfl) rfl (Nat.le_of_ble_eq_true rfl) dX0_numberVertices_12 rfl (fun h4 => ?_)
  refine z_iconst (nI 0) 16 zki_0 dX0_numberVertices_15 rfl ?_
  refine z_istore_n (lv2 := [(1, .int (nI 0)), (0, .ref (b0 + x0))]) 17 dX0_numberVertices_16 rfl (Nat.le_of_ble_eq_true rfl) rfl ?_
  refine z_iconst (nI 0) 18 zki_0 dX0_numberVertices_17 rfl ?_
  refine z_istore_n (lv2 := [(2, .int (nI 0)), (1, .int (nI 0)), (0, .ref (b0 + x0))]) 19 dX0_numberVertices_18 rfl (Nat.le_of_ble_eq_true rfl) rfl ?_
  exact z_sub [2, 1, 0] rfl (BX0_numberVertices_19 b0 x0 zfu (nI 0) (nI 0) h4)
-- X1_exits
def bX1_exits_34 (self4 : Int32 × Int32 × ZH → Option (Int32 × ZH)) (x0 : Nat) (x1 : Int32) (x3 : Int32) (t0 : Int32) (t1 : Int32) (h : ZH) : Option (Int32 × ZH) :=
  zl (t1 ||| t0) fun v1 =>
  self4 (v1, (x3 + (nI 1)), h)
theorem BX1_exits_34 (b0 : Nat) (self4 : Int32 × Int32 × ZH → Option (Int32 × ZH)) (x0 : Nat) (x1 : Int32) (x3 : Int32) (t0 : Int32) (t1 : Int32) (h : ZH) (hself4 : ∀ (y2 : Int32) (y3 : Int32) (hh : ZH), Zr zi b0 YX1_exits 1 4 [(0, .ref (b0 + x0)), (1, .int x1), (2, .int y2), (3, .int y3)] [] hh (self4 (y2, y3, hh))) : Zr zi b0 YX1_exits 1 34 [(0, .ref (b0 + x0)), (1, .int x1), (3, .int x3)] [.int t0, .int t1] h (bX1_exits_34 self4 x0 x1 x3 t0 t1 h) := by
  unfold bX1_exits_34
  refine z_ior 35 dX1_exits_34 rfl ?_
  refine z_letI (fun v1 _ => ?_)
  refine z_istore_n (lv2 := [(2, .int v1), (0, .ref (b0 + x0)), (1, .int x1), (3, .int x3)]) 36 dX1_exits_35 rfl (Nat.le_of_ble_eq_true rfl) rfl ?_
  refine z_iinc (lv2 := [(3, .int (x3 + (nI 1))), (2, .int v1), (0, .ref (b0 + x0)), (1, .int x1)]) (nI 1) 39 3 dX1_exits_36 rfl rfl zki_1 (Nat.le_of_ble_eq_true rfl) rfl ?_
  refine z_goto 4 dX1_exits_39 (by decide) ?_
  exact z_sub [2, 3, 1, 0] rfl (hself4 v1 (x3 + (nI 1)) h)
def bX1_exits_33 (self4 : Int32 × Int32 × ZH → Option (Int32 × ZH)) (x0 : Nat) (x1 : Int32) (x3 : Int32) (t0 : Int32) (h : ZH) : Option (Int32 × ZH) :=
  bX1_exits_34 self4 x0 x1 x3 (nI 0) t0 h
theorem BX1_exits_33 (b0 : Nat) (self4 : Int32 × Int32 × ZH → Option (Int32 × ZH)) (x0 : Nat) (x1 : Int32) (x3 : Int32) (t0 : Int32) (h : ZH) (hself4 : ∀ (y2 : Int32) (y3 : Int32) (hh : ZH), Zr zi b0 YX1_exits 1 4 [(0, .ref (b0 + x0)), (1, .int x1), (2, .int y2), (3, .int y3)] [] hh (self4 (y2, y3, hh))) : Zr zi b0 YX1_exits 1 33 [(0, .ref (b0 + x0)), (1, .int x1), (3, .int x3)] [.int t0] h (bX1_exits_33 self4 x0 x1 x3 t0 h) := by
  unfold bX1_exits_33
  refine z_iconst (nI 0) 34 zki_0 dX1_exits_33 rfl ?_
  exact z_sub [0, 1, 2] rfl (BX1_exits_34 b0 self4 x0 x1 x3 (nI 0) t0 h hself4)
def kX1_exits_4 (x0 : Nat) (x1 : Int32) (self4 : Int32 × Int32 × ZH → Option (Int32 × ZH)) (x2 : Int32) (x3 : Int32) (h : ZH) : Option (Int32 × ZH) :=
  if (nI 4) ≤ x3 then (some (x2, h)) else
  (if x1 < 0 then (bX1_exits_33 self4 x0 x1 x3 x2 h) else
  (if (nI 8) ≤ x1 then (bX1_exits_33 self4 x0 x1 x3 x2 h) else
  ((gR h 1 x0 0).bind fun v4 =>
  (lI h 14 v4 (((nI 4) * x1) + x3)).bind fun v5 =>
  bX1_exits_34 self4 x0 x1 x3 v5 x2 h)))
def lX1_exits_4 (x0 : Nat) (x1 : Int32) : (Int32 × Int32 × ZH → Option (Int32 × ZH)) → Int32 × Int32 × ZH → Option (Int32 × ZH) := fun self s => kX1_exits_4 x0 x1 self s.1 s.2.1 s.2.2
theorem KX1_exits_4 (b0 : Nat) (x0 : Nat) (x1 : Int32) (self4 : Int32 × Int32 × ZH → Option (Int32 × ZH)) (hself4 : ∀ (y2 : Int32) (y3 : Int32) (hh : ZH), Zr zi b0 YX1_exits 1 4 [(0, .ref (b0 + x0)), (1, .int x1), (2, .int y2), (3, .int y3)] [] hh (self4 (y2, y3, hh))) (x2 : Int32) (x3 : Int32) (h : ZH) : Zr zi b0 YX1_exits 1 4 [(0, .ref (b0 + x0)), (1, .int x1), (2, .int x2), (3, .int x3)] [] h (kX1_exits_4 x0 x1 self4 x2 x3 h) := by
  unfold kX1_exits_4
  refine z_iload_n 5 3 dX1_exits_4 rfl rfl ?_
  refine z_iconst (nI 4) 6 zki_4 dX1_exits_5 rfl ?_
  refine z_icmp_ge 42 9 dX1_exits_6 (by decide) rfl (fun c1 => ?_) (fun c1 => ?_)
  · refine z_iload_n 43 2 dX1_exits_42 rfl rfl ?_
    exact z_ireturn dX1_exits_43 rfl
  · refine z_iload_n 10 2 dX1_exits_9 rfl rfl ?_
    refine z_iload_n 11 1 dX1_exits_10 rfl rfl ?_
    refine z_if_lt 33 14 dX1_exits_11 (by decide) rfl (fun c2 => ?_) (fun c2 => ?_)
    · exact z_sub [0, 1, 3] rfl (BX1_exits_33 b0 self4 x0 x1 x3 x2 h hself4)
    · refine z_iload_n 15 1 dX1_exits_14 rfl rfl ?_
      refine z_bipush (nI 8) 17 zkb_8 dX1_exits_15 rfl ?_
      refine z_icmp_ge 33 20 dX1_exits_17 (by decide) rfl (fun c3 => ?_) (fun c3 => ?_)
      · exact z_sub [0, 1, 3] rfl (BX1_exits_33 b0 self4 x0 x1 x3 x2 h hself4)
      · refine z_aload_n 21 0 dX1_exits_20 rfl rfl ?_
        refine z_getR 24 zC1 (Nat.le_of_ble_eq_true rfl) rfl w_40 dX1_exits_21 rfl (fun v4 _ => ?_)
        refine z_iconst (nI 4) 25 zki_4 dX1_exits_24 rfl ?_
        refine z_iload_n 26 1 dX1_exits_25 rfl rfl ?_
        refine z_imul 27 dX1_exits_26 rfl ?_
        refine z_iload_n 28 3 dX1_exits_27 rfl rfl ?_
        refine z_iadd 29 dX1_exits_28 rfl ?_
        refine z_iaload 30 dX1_exits_29 rfl (fun v5 _ => ?_)
        refine z_goto 34 dX1_exits_30 (by decide) ?_
        exact z_sub [0, 1, 3] rfl (BX1_exits_34 b0 self4 x0 x1 x3 v5 x2 h hself4)
theorem BX1_exits_4 (b0 : Nat) (x0 : Nat) (x1 : Int32) (n : Nat) (x2 : Int32) (x3 : Int32) (h : ZH) : Zr zi b0 YX1_exits 1 4 [(0, .ref (b0 + x0)), (1, .int x1), (2, .int x2), (3, .int x3)] [] h (zloop (lX1_exits_4 x0 x1) n (x2, x3, h)) :=
  zloop_Zr (fun s => [(0, .ref (b0 + x0)), (1, .int x1), (2, .int s.1), (3, .int s.2.1)]) (fun _ => []) (fun s => s.2.2) (lX1_exits_4 x0 x1) (fun self hs s => KX1_exits_4 b0 x0 x1 self (fun y2 y3 hh => hs (y2, y3, hh)) s.1 s.2.1 s.2.2) n (x2, x3, h)
def fX1_exits (x0 : Nat) (x1 : Int32) (h : ZH) : Option (Int32 × ZH) :=
  if x0 < zn h ∧ zK h x0 = 1 then (zloop (lX1_exits_4 x0 x1) zfu ((nI 0), (nI 0), h)) else none
theorem kX1_exits {x0 : Nat} {x1 : Int32} {h : ZH} {x : Int32 × ZH} (e : fX1_exits x0 x1 h = some x) : x0 < zn h ∧ zK h x0 = 1 := by
  unfold fX1_exits at e
  exact zguard e
theorem mX1_exits (b0 : Nat) (x0 : Nat) (x1 : Int32) (h : ZH) : ZM zi b0 YX1_exits 1 [.ref (b0 + x0), .int x1] h (fX1_exits x0 x1 h) := by
  unfold fX1_exits
  refine ZM.of (by decide) rfl (Nat.le_of_ble_eq_true rfl) (fun _ => trivial) ?_
  refine z_sub (lv2 := [(0, .ref (b0 + x0)), (1, .int x1)]) [0, 1] rfl ?_
  refine z_guard (fun _ => ?_)
  refine z_iconst (nI 0) 1 zki_0 dX1_exits_0 rfl ?_
  refine z_istore_n (lv2 := [(2, .int (nI 0)), (0, .ref (b0 + x0)), (1, .int x1)]) 2 dX1_exits_1 rfl (Nat.le_of_ble_eq_true rfl) rfl ?_
  refine z_iconst (nI 0) 3 zki_0 dX1_exits_2 rfl ?_
  refine z_istore_n (lv2 := [(3, .int (nI 0)), (2, .int (nI 0)), (0, .ref (b0 + x0)), (1, .int x1)]) 4 dX1_exits_3 rfl (Nat.le_of_ble_eq_true rfl) rfl ?_
  exact z_sub [2, 3, 1, 0] rfl (BX1_exits_4 b0 x0 x1 zfu (nI 0) (nI 0) h)
-- X1_followAny
def bX1_followAny_26 (self4 : Int32 × Int32 × ZH → Option (Int32 × ZH)) (x0 : Nat) (x1 : Int32) (x2 : Int32) (x3 : Int32) (h : ZH) : Option (Int32 × ZH) :=
  self4 (x2, (x3 + (nI 1)), h)
theorem BX1_followAny_26 (b0 : Nat) (self4 : Int32 × Int32 × ZH → Option (Int32 × ZH)) (x0 : Nat) (x1 : Int32) (x2 : Int32) (x3 : Int32) (h : ZH) (hself4 : ∀ (y2 : Int32) (y3 : Int32) (hh : ZH), Zr zi b0 YX1_followAny 2 4 [(0, .ref (b0 + x0)), (1, .int x1), (2, .int y2), (3, .int y3)] [] hh (self4 (y2, y3, hh))) : Zr zi b0 YX1_followAny 2 26 [(0, .ref (b0 + x0)), (1, .int x1), (2, .int x2), (3, .int x3)] [] h (bX1_followAny_26 self4 x0 x1 x2 x3 h) := by
  unfold bX1_followAny_26
  refine z_iinc (lv2 := [(3, .int (x3 + (nI 1))), (0, .ref (b0 + x0)), (1, .int x1), (2, .int x2)]) (nI 1) 29 3 dX1_followAny_26 rfl rfl zki_1 (Nat.le_of_ble_eq_true rfl) rfl ?_
  refine z_goto 4 dX1_followAny_29 (by decide) ?_
  exact z_sub [1, 2, 3, 0] rfl (hself4 x2 (x3 + (nI 1)) h)
def kX1_followAny_4 (x0 : Nat) (x1 : Int32) (self4 : Int32 × Int32 × ZH → Option (Int32 × ZH)) (x2 : Int32) (x3 : Int32) (h : ZH) : Option (Int32 × ZH) :=
  if (nI 8) ≤ x3 then (some (x2, h)) else
  (if ((jshr x1 x3) &&& (nI 1)) = 0 then (bX1_followAny_26 self4 x0 x1 x2 x3 h) else
  ((fX1_exits x0 x3 h).bind fun q3 =>
  zl (x2 ||| q3.1) fun v4 =>
  bX1_followAny_26 self4 x0 x1 v4 x3 q3.2))
def lX1_followAny_4 (x0 : Nat) (x1 : Int32) : (Int32 × Int32 × ZH → Option (Int32 × ZH)) → Int32 × Int32 × ZH → Option (Int32 × ZH) := fun self s => kX1_followAny_4 x0 x1 self s.1 s.2.1 s.2.2
theorem KX1_followAny_4 (b0 : Nat) (x0 : Nat) (x1 : Int32) (self4 : Int32 × Int32 × ZH → Option (Int32 × ZH)) (hself4 : ∀ (y2 : Int32) (y3 : Int32) (hh : ZH), Zr zi b0 YX1_followAny 2 4 [(0, .ref (b0 + x0)), (1, .int x1), (2, .int y2), (3, .int y3)] [] hh (self4 (y2, y3, hh))) (x2 : Int32) (x3 : Int32) (h : ZH) : Zr zi b0 YX1_followAny 2 4 [(0, .ref (b0 + x0)), (1, .int x1), (2, .int x2), (3, .int x3)] [] h (kX1_followAny_4 x0 x1 self4 x2 x3 h) := by
  unfold kX1_followAny_4
  refine z_iload_n 5 3 dX1_followAny_4 rfl rfl ?_
  refine z_bipush (nI 8) 7 zkb_8 dX1_followAny_5 rfl ?_
  refine z_icmp_ge 32 10 dX1_followAny_7 (by decide) rfl (fun c1 => ?_) (fun c1 => ?_)
  · refine z_iload_n 33 2 dX1_followAny_32 rfl rfl ?_
    exact z_ireturn dX1_followAny_33 rfl
  · refine z_iload_n 11 1 dX1_followAny_10 rfl rfl ?_
    refine z_iload_n 12 3 dX1_followAny_11 rfl rfl ?_
    refine z_ishr 13 dX1_followAny_12 rfl ?_
    refine z_iconst (nI 1) 14 zki_1 dX1_followAny_13 rfl ?_
    refine z_iand 15 dX1_followAny_14 rfl ?_
    refine z_if_eq 26 18 dX1_followAny_15 (by decide) rfl (fun c2 => ?_) (fun c2 => ?_)
    · exact z_sub [0, 1, 2, 3] rfl (BX1_followAny_26 b0 self4 x0 x1 x2 x3 h hself4)
    · refine z_iload_n 19 2 dX1_followAny_18 rfl rfl ?_
      refine z_aload_n 20 0 dX1_followAny_19 rfl rfl ?_
      refine z_iload_n 21 3 dX1_followAny_20 rfl rfl ?_
      refine z_callVi 24 (mX1_exits b0 x0 x3 h) zyX1_exits rfl w_432 (ci := 1) rfl (Nat.le_of_ble_eq_true rfl) (fun _ e9 => kX1_exits e9) wm_yX1_exits ws_yX1_exits (Nat.le_of_ble_eq_true rfl) rfl (Nat.le_of_ble_eq_true rfl) dX1_followAny_21 rfl (fun q3 => ?_)
      refine z_ior 25 dX1_followAny_24 rfl ?_
      refine z_letI (fun v4 _ => ?_)
      refine z_istore_n (lv2 := [(2, .int v4), (0, .ref (b0 + x0)), (1, .int x1), (3, .int x3)]) 26 dX1_followAny_25 rfl (Nat.le_of_ble_eq_true rfl) rfl ?_
      exact z_sub [1, 2, 0, 3] rfl (BX1_followAny_26 b0 self4 x0 x1 v4 x3 q3.2 hself4)
theorem BX1_followAny_4 (b0 : Nat) (x0 : Nat) (x1 : Int32) (n : Nat) (x2 : Int32) (x3 : Int32) (h : ZH) : Zr zi b0 YX1_followAny 2 4 [(0, .ref (b0 + x0)), (1, .int x1), (2, .int x2), (3, .int x3)] [] h (zloop (lX1_followAny_4 x0 x1) n (x2, x3, h)) :=
  zloop_Zr (fun s => [(0, .ref (b0 + x0)), (1, .int x1), (2, .int s.1), (3, .int s.2.1)]) (fun _ => []) (fun s => s.2.2) (lX1_followAny_4 x0 x1) (fun self hs s => KX1_followAny_4 b0 x0 x1 self (fun y2 y3 hh => hs (y2, y3, hh)) s.1 s.2.1 s.2.2) n (x2, x3, h)
def fX1_followAny (x0 : Nat) (x1 : Int32) (h : ZH) : Option (Int32 × ZH) :=
  if x0 < zn h ∧ zK h x0 = 1 then (zloop (lX1_followAny_4 x0 x1) zfu ((nI 0), (nI 0), h)) else none
theorem kX1_followAny {x0 : Nat} {x1 : Int32} {h : ZH} {x : Int32 × ZH} (e : fX1_followAny x0 x1 h = some x) : x0 < zn h ∧ zK h x0 = 1 := by
  unfold fX1_followAny at e
  exact zguard e
theorem mX1_followAny (b0 : Nat) (x0 : Nat) (x1 : Int32) (h : ZH) : ZM zi b0 YX1_followAny 2 [.ref (b0 + x0), .int x1] h (fX1_followAny x0 x1 h) := by
  unfold fX1_followAny
  refine ZM.of (by decide) rfl (Nat.le_of_ble_eq_true rfl) (fun _ => trivial) ?_
  refine z_sub (lv2 := [(0, .ref (b0 + x0)), (1, .int x1)]) [0, 1] rfl ?_
  refine z_guard (fun _ => ?_)
  refine z_iconst (nI 0) 1 zki_0 dX1_followAny_0 rfl ?_
  refine z_istore_n (lv2 := [(2, .int (nI 0)), (0, .ref (b0 + x0)), (1, .int x1)]) 2 dX1_followAny_1 rfl (Nat.le_of_ble_eq_true rfl) rfl ?_
  refine z_iconst (nI 0) 3 zki_0 dX1_followAny_2 rfl ?_
  refine z_istore_n (lv2 := [(3, .int (nI 0)), (2, .int (nI 0)), (0, .ref (b0 + x0)), (1, .int x1)]) 4 dX1_followAny_3 rfl (Nat.le_of_ble_eq_true rfl) rfl ?_
  exact z_sub [2, 3, 1, 0] rfl (BX1_followAny_4 b0 x0 x1 zfu (nI 0) (nI 0) h)
-- X1_verticesInto
def bX1_verticesInto_26 (self4 : Int32 × Int32 × ZH → Option (Int32 × ZH)) (x0 : Nat) (x1 : Int32) (x2 : Int32) (x3 : Int32) (h : ZH) : Option (Int32 × ZH) :=
  self4 (x2, (x3 + (nI 1)), h)
theorem BX1_verticesInto_26 (b0 : Nat) (self4 : Int32 × Int32 × ZH → Option (Int32 × ZH)) (x0 : Nat) (x1 : Int32) (x2 : Int32) (x3 : Int32) (h : ZH) (hself4 : ∀ (y2 : Int32) (y3 : Int32) (hh : ZH), Zr zi b0 YX1_verticesInto 2 4 [(0, .ref (b0 + x0)), (1, .int x1), (2, .int y2), (3, .int y3)] [] hh (self4 (y2, y3, hh))) : Zr zi b0 YX1_verticesInto 2 26 [(0, .ref (b0 + x0)), (1, .int x1), (2, .int x2), (3, .int x3)] [] h (bX1_verticesInto_26 self4 x0 x1 x2 x3 h) := by
  unfold bX1_verticesInto_26
  refine z_iinc (lv2 := [(3, .int (x3 + (nI 1))), (0, .ref (b0 + x0)), (1, .int x1), (2, .int x2)]) (nI 1) 29 3 dX1_verticesInto_26 rfl rfl zki_1 (Nat.le_of_ble_eq_true rfl) rfl ?_
  refine z_goto 4 dX1_verticesInto_29 (by decide) ?_
  exact z_sub [1, 2, 3, 0] rfl (hself4 x2 (x3 + (nI 1)) h)
def kX1_verticesInto_4 (x0 : Nat) (x1 : Int32) (self4 : Int32 × Int32 × ZH → Option (Int32 × ZH)) (x2 : Int32) (x3 : Int32) (h : ZH) : Option (Int32 × ZH) :=
  if (nI 8) ≤ x3 then (some (x2, h)) else
  ((fX1_exits x0 x3 h).bind fun q2 =>
  if (q2.1 &&& x1) = 0 then (bX1_verticesInto_26 self4 x0 x1 x2 x3 q2.2) else
  (zl (x2 ||| (jshl (nI 1) x3)) fun v4 =>
  bX1_verticesInto_26 self4 x0 x1 v4 x3 q2.2))
def lX1_verticesInto_4 (x0 : Nat) (x1 : Int32) : (Int32 × Int32 × ZH → Option (Int32 × ZH)) → Int32 × Int32 × ZH → Option (Int32 × ZH) := fun self s => kX1_verticesInto_4 x0 x1 self s.1 s.2.1 s.2.2
theorem KX1_verticesInto_4 (b0 : Nat) (x0 : Nat) (x1 : Int32) (self4 : Int32 × Int32 × ZH → Option (Int32 × ZH)) (hself4 : ∀ (y2 : Int32) (y3 : Int32) (hh : ZH), Zr zi b0 YX1_verticesInto 2 4 [(0, .ref (b0 + x0)), (1, .int x1), (2, .int y2), (3, .int y3)] [] hh (self4 (y2, y3, hh))) (x2 : Int32) (x3 : Int32) (h : ZH) : Zr zi b0 YX1_verticesInto 2 4 [(0, .ref (b0 + x0)), (1, .int x1), (2, .int x2), (3, .int x3)] [] h (kX1_verticesInto_4 x0 x1 self4 x2 x3 h) := by
  unfold kX1_verticesInto_4
  refine z_iload_n 5 3 dX1_verticesInto_4 rfl rfl ?_
  refine z_bipush (nI 8) 7 zkb_8 dX1_verticesInto_5 rfl ?_
  refine z_icmp_ge 32 10 dX1_verticesInto_7 (by decide) rfl (fun c1 => ?_) (fun c1 => ?_)
  · refine z_iload_n 33 2 dX1_verticesInto_32 rfl rfl ?_
    exact z_ireturn dX1_verticesInto_33 rfl
  · refine z_aload_n 11 0 dX1_verticesInto_10 rfl rfl ?_
    refine z_iload_n 12 3 dX1_verticesInto_11 rfl rfl ?_
    refine z_callVi 15 (mX1_exits b0 x0 x3 h) zyX1_exits rfl w_432 (ci := 1) rfl (Nat.le_of_ble_eq_true rfl) (fun _ e9 => kX1_exits e9) wm_yX1_exits ws_yX1_exits (Nat.le_of_ble_eq_true rfl) rfl (Nat.le_of_ble_eq_true rfl) dX1_verticesInto_12 rfl (fun q2 => ?_)
    refine z_iload_n 16 1 dX1_verticesInto_15 rfl rfl ?_
    refine z_iand 17 dX1_verticesInto_16 rfl ?_
    refine z_if_eq 26 20 dX1_verticesInto_17 (by decide) rfl (fun c3 => ?_) (fun c3 => ?_)
    · exact z_sub [0, 1, 2, 3] rfl (BX1_verticesInto_26 b0 self4 x0 x1 x2 x3 q2.2 hself4)
    · refine z_iload_n 21 2 dX1_verticesInto_20 rfl rfl ?_
      refine z_iconst (nI 1) 22 zki_1 dX1_verticesInto_21 rfl ?_
      refine z_iload_n 23 3 dX1_verticesInto_22 rfl rfl ?_
      refine z_ishl 24 dX1_verticesInto_23 rfl ?_
      refine z_ior 25 dX1_verticesInto_24 rfl ?_
      refine z_letI (fun v4 _ => ?_)
      refine z_istore_n (lv2 := [(2, .int v4), (0, .ref (b0 + x0)), (1, .int x1), (3, .int x3)]) 26 dX1_verticesInto_25 rfl (Nat.le_of_ble_eq_true rfl) rfl ?_
      exact z_sub [1, 2, 0, 3] rfl (BX1_verticesInto_26 b0 self4 x0 x1 v4 x3 q2.2 hself4)
theorem BX1_verticesInto_4 (b0 : Nat) (x0 : Nat) (x1 : Int32) (n : Nat) (x2 : Int32) (x3 : Int32) (h : ZH) : Zr zi b0 YX1_verticesInto 2 4 [(0, .ref (b0 + x0)), (1, .int x1), (2, .int x2), (3, .int x3)] [] h (zloop (lX1_verticesInto_4 x0 x1) n (x2, x3, h)) :=
  zloop_Zr (fun s => [(0, .ref (b0 + x0)), (1, .int x1), (2, .int s.1), (3, .int s.2.1)]) (fun _ => []) (fun s => s.2.2) (lX1_verticesInto_4 x0 x1) (fun self hs s => KX1_verticesInto_4 b0 x0 x1 self (fun y2 y3 hh => hs (y2, y3, hh)) s.1 s.2.1 s.2.2) n (x2, x3, h)
def fX1_verticesInto (x0 : Nat) (x1 : Int32) (h : ZH) : Option (Int32 × ZH) :=
  if x0 < zn h ∧ zK h x0 = 1 then (zloop (lX1_verticesInto_4 x0 x1) zfu ((nI 0), (nI 0), h)) else none
theorem kX1_verticesInto {x0 : Nat} {x1 : Int32} {h : ZH} {x : Int32 × ZH} (e : fX1_verticesInto x0 x1 h = some x) : x0 < zn h ∧ zK h x0 = 1 := by
  unfold fX1_verticesInto at e
  exact zguard e
theorem mX1_verticesInto (b0 : Nat) (x0 : Nat) (x1 : Int32) (h : ZH) : ZM zi b0 YX1_verticesInto 2 [.ref (b0 + x0), .int x1] h (fX1_verticesInto x0 x1 h) := by
  unfold fX1_verticesInto
  refine ZM.of (by decide) rfl (Nat.le_of_ble_eq_true rfl) (fun _ => trivial) ?_
  refine z_sub (lv2 := [(0, .ref (b0 + x0)), (1, .int x1)]) [0, 1] rfl ?_
  refine z_guard (fun _ => ?_)
  refine z_iconst (nI 0) 1 zki_0 dX1_verticesInto_0 rfl ?_
  refine z_istore_n (lv2 := [(2, .int (nI 0)), (0, .ref (b0 + x0)), (1, .int x1)]) 2 dX1_verticesInto_1 rfl (Nat.le_of_ble_eq_true rfl) rfl ?_
  refine z_iconst (nI 0) 3 zki_0 dX1_verticesInto_2 rfl ?_
  refine z_istore_n (lv2 := [(3, .int (nI 0)), (2, .int (nI 0)), (0, .ref (b0 + x0)), (1, .int x1)]) 4 dX1_verticesInto_3 rfl (Nat.le_of_ble_eq_true rfl) rfl ?_
  exact z_sub [2, 3, 1, 0] rfl (BX1_verticesInto_4 b0 x0 x1 zfu (nI 0) (nI 0) h)
-- X1_core
def bX1_core_54 (x1 : Int32) (h : ZH) : Option (Int32 × ZH) :=
  some (x1, h)
theorem BX1_core_54 (b0 : Nat) (x1 : Int32) (h : ZH) : Zr zi b0 YX1_core 3 54 [(1, .int x1)] [] h (bX1_core_54 x1 h) := by
  unfold bX1_core_54
  refine z_iload_n 55 0 dX1_core_54 rfl rfl ?_
  exact z_ireturn dX1_core_55 rfl
def bX1_core_44 (self8 : Int32 × Int32 × Int32 × ZH → Option (Int32 × ZH)) (x0 : Nat) (x3 : Int32) (x4 : Int32) (t0 : Int32) (h : ZH) : Option (Int32 × ZH) :=
  self8 (x4, t0, (x3 + (nI 1)), h)
theorem BX1_core_44 (b0 : Nat) (self8 : Int32 × Int32 × Int32 × ZH → Option (Int32 × ZH)) (x0 : Nat) (x3 : Int32) (x4 : Int32) (t0 : Int32) (h : ZH) (hself8 : ∀ (y1 : Int32) (y2 : Int32) (y3 : Int32) (hh : ZH), Zr zi b0 YX1_core 3 8 [(0, .ref (b0 + x0)), (1, .int y1), (2, .int y2), (3, .int y3)] [] hh (self8 (y1, y2, y3, hh))) : Zr zi b0 YX1_core 3 44 [(0, .ref (b0 + x0)), (3, .int x3), (4, .int x4)] [.int t0] h (bX1_core_44 self8 x0 x3 x4 t0 h) := by
  unfold bX1_core_44
  refine z_istore_n (lv2 := [(2, .int t0), (0, .ref (b0 + x0)), (3, .int x3), (4, .int x4)]) 45 dX1_core_44 rfl (Nat.le_of_ble_eq_true rfl) rfl ?_
  refine z_iload 47 3 dX1_core_45 rfl rfl ?_
  refine z_istore_n (lv2 := [(1, .int x4), (2, .int t0), (0, .ref (b0 + x0)), (3, .int x3), (4, .int x4)]) 48 dX1_core_47 rfl (Nat.le_of_ble_eq_true rfl) rfl ?_
  refine z_iinc (lv2 := [(3, .int (x3 + (nI 1))), (1, .int x4), (2, .int t0), (0, .ref (b0 + x0)), (4, .int x4)]) (nI 1) 51 3 dX1_core_48 rfl rfl zki_1 (Nat.le_of_ble_eq_true rfl) rfl ?_
  refine z_goto 8 dX1_core_51 (by decide) ?_
  exact z_sub [3, 1, 2, 0] rfl (hself8 x4 t0 (x3 + (nI 1)) h)
def kX1_core_8 (x0 : Nat) (self8 : Int32 × Int32 × Int32 × ZH → Option (Int32 × ZH)) (x1 : Int32) (x2 : Int32) (x3 : Int32) (h : ZH) : Option (Int32 × ZH) :=
  if (nI 8) < x3 then (bX1_core_54 x1 h) else
  (if x2 = 0 then (bX1_core_54 x1 h) else
  ((fX1_followAny x0 x1 h).bind fun q3 =>
  (fX1_verticesInto x0 x1 q3.2).bind fun q4 =>
  zl ((x1 &&& q3.1) &&& q4.1) fun v5 =>
  if v5 = x1 then (bX1_core_44 self8 x0 x3 v5 (nI 0) q4.2) else
  (bX1_core_44 self8 x0 x3 v5 (nI 1) q4.2)))
def lX1_core_8 (x0 : Nat) : (Int32 × Int32 × Int32 × ZH → Option (Int32 × ZH)) → Int32 × Int32 × Int32 × ZH → Option (Int32 × ZH) := fun self s => kX1_core_8 x0 self s.1 s.2.1 s.2.2.1 s.2.2.2
theorem KX1_core_8 (b0 : Nat) (x0 : Nat) (self8 : Int32 × Int32 × Int32 × ZH → Option (Int32 × ZH)) (hself8 : ∀ (y1 : Int32) (y2 : Int32) (y3 : Int32) (hh : ZH), Zr zi b0 YX1_core 3 8 [(0, .ref (b0 + x0)), (1, .int y1), (2, .int y2), (3, .int y3)] [] hh (self8 (y1, y2, y3, hh))) (x1 : Int32) (x2 : Int32) (x3 : Int32) (h : ZH) : Zr zi b0 YX1_core 3 8 [(0, .ref (b0 + x0)), (1, .int x1), (2, .int x2), (3, .int x3)] [] h (kX1_core_8 x0 self8 x1 x2 x3 h) := by
  unfold kX1_core_8
  refine z_iload_n 9 3 dX1_core_8 rfl rfl ?_
  refine z_bipush (nI 8) 11 zkb_8 dX1_core_9 rfl ?_
  refine z_icmp_gt 54 14 dX1_core_11 (by decide) rfl (fun c1 => ?_) (fun c1 => ?_)
  · exact z_sub [1] rfl (BX1_core_54 b0 x1 h )
  · refine z_iload_n 15 2 dX1_core_14 rfl rfl ?_
    refine z_if_eq 54 18 dX1_core_15 (by decide) rfl (fun c2 => ?_) (fun c2 => ?_)
    · exact z_sub [1] rfl (BX1_core_54 b0 x1 h )
    · refine z_iload_n 19 1 dX1_core_18 rfl rfl ?_
      refine z_aload_n 20 0 dX1_core_19 rfl rfl ?_
      refine z_iload_n 21 1 dX1_core_20 rfl rfl ?_
      refine z_callVi 24 (mX1_followAny b0 x0 x1 h) zyX1_followAny rfl w_428 (ci := 1) rfl (Nat.le_of_ble_eq_true rfl) (fun _ e9 => kX1_followAny e9) wm_yX1_followAny ws_yX1_followAny (Nat.le_of_ble_eq_true rfl) rfl (Nat.le_of_ble_eq_true rfl) dX1_core_21 rfl (fun q3 => ?_)
      refine z_iand 25 dX1_core_24 rfl ?_
      refine z_aload_n 26 0 dX1_core_25 rfl rfl ?_
      refine z_iload_n 27 1 dX1_core_26 rfl rfl ?_
      refine z_callVi 30 (mX1_verticesInto b0 x0 x1 q3.2) zyX1_verticesInto rfl w_436 (ci := 1) rfl (Nat.le_of_ble_eq_true rfl) (fun _ e9 => kX1_verticesInto e9) wm_yX1_verticesInto ws_yX1_verticesInto (Nat.le_of_ble_eq_true rfl) rfl (Nat.le_of_ble_eq_true rfl) dX1_core_27 rfl (fun q4 => ?_)
      refine z_iand 31 dX1_core_30 rfl ?_
      refine z_letI (fun v5 _ => ?_)
      refine z_istore (lv2 := [(4, .int v5), (0, .ref (b0 + x0)), (1, .int x1), (2, .int x2), (3, .int x3)]) 33 dX1_core_31 rfl (Nat.le_of_ble_eq_true rfl) rfl ?_
      refine z_iload 35 0 dX1_core_33 rfl rfl ?_
      refine z_iload_n 36 2 dX1_core_35 rfl rfl ?_
      refine z_icmp_eq 43 39 dX1_core_36 (by decide) rfl (fun c6 => ?_) (fun c6 => ?_)
      · refine z_iconst (nI 0) 44 zki_0 dX1_core_43 rfl ?_
        exact z_sub [1, 4, 0] rfl (BX1_core_44 b0 self8 x0 x3 v5 (nI 0) q4.2 hself8)
      · refine z_iconst (nI 1) 40 zki_1 dX1_core_39 rfl ?_
        refine z_goto 44 dX1_core_40 (by decide) ?_
        exact z_sub [1, 4, 0] rfl (BX1_core_44 b0 self8 x0 x3 v5 (nI 1) q4.2 hself8)
theorem BX1_core_8 (b0 : Nat) (x0 : Nat) (n : Nat) (x1 : Int32) (x2 : Int32) (x3 : Int32) (h : ZH) : Zr zi b0 YX1_core 3 8 [(0, .ref (b0 + x0)), (1, .int x1), (2, .int x2), (3, .int x3)] [] h (zloop (lX1_core_8 x0) n (x1, x2, x3, h)) :=
  zloop_Zr (fun s => [(0, .ref (b0 + x0)), (1, .int s.1), (2, .int s.2.1), (3, .int s.2.2.1)]) (fun _ => []) (fun s => s.2.2.2) (lX1_core_8 x0) (fun self hs s => KX1_core_8 b0 x0 self (fun y1 y2 y3 hh => hs (y1, y2, y3, hh)) s.1 s.2.1 s.2.2.1 s.2.2.2) n (x1, x2, x3, h)
def fX1_core (x0 : Nat) (h : ZH) : Option (Int32 × ZH) :=
  if x0 < zn h ∧ zK h x0 = 1 then (zloop (lX1_core_8 x0) zfu ((nI 255), (nI 1), (nI 0), h)) else none
theorem kX1_core {x0 : Nat} {h : ZH} {x : Int32 × ZH} (e : fX1_core x0 h = some x) : x0 < zn h ∧ zK h x0 = 1 := by
  unfold fX1_core at e
  exact zguard e
theorem mX1_core (b0 : Nat) (x0 : Nat) (h : ZH) : ZM zi b0 YX1_core 3 [.ref (b0 + x0)] h (fX1_core x0 h) := by
  unfold fX1_core
  refine ZM.of (by decide) rfl (Nat.le_of_ble_eq_true rfl) (fun _ => trivial) ?_
  refine z_sub (lv2 := [(0, .ref (b0 + x0))]) [0] rfl ?_
  refine z_guard (fun _ => ?_)
  refine z_sipush (nI 255) 3 zks_255 dX1_core_0 rfl ?_
  refine z_istore_n (lv2 := [(1, .int (nI 255)), (0, .ref (b0 + x0))]) 4 dX1_core_3 rfl (Nat.le_of_ble_eq_true rfl) rfl ?_
  refine z_iconst (nI 1) 5 zki_1 dX1_core_4 rfl ?_
  refine z_istore_n (lv2 := [(2, .int (nI 1)), (1, .int (nI 255)), (0, .ref (b0 + x0))]) 6 dX1_core_5 rfl (Nat.le_of_ble_eq_true rfl) rfl ?_
  refine z_iconst (nI 0) 7 zki_0 dX1_core_6 rfl ?_
  refine z_istore_n (lv2 := [(3, .int (nI 0)), (2, .int (nI 1)), (1, .int (nI 255)), (0, .ref (b0 + x0))]) 8 dX1_core_7 rfl (Nat.le_of_ble_eq_true rfl) rfl ?_
  exact z_sub [3, 2, 1, 0] rfl (BX1_core_8 b0 x0 zfu (nI 255) (nI 1) (nI 0) h)
-- X1_follow
def bX1_follow_31 (self5 : Int32 × Int32 × ZH → Option (Int32 × ZH)) (x0 : Nat) (x1 : Int32) (x2 : Int32) (x3 : Int32) (x4 : Int32) (h : ZH) : Option (Int32 × ZH) :=
  self5 (x3, (x4 + (nI 1)), h)
theorem BX1_follow_31 (b0 : Nat) (self5 : Int32 × Int32 × ZH → Option (Int32 × ZH)) (x0 : Nat) (x1 : Int32) (x2 : Int32) (x3 : Int32) (x4 : Int32) (h : ZH) (hself5 : ∀ (y3 : Int32) (y4 : Int32) (hh : ZH), Zr zi b0 YX1_follow 2 5 [(0, .ref (b0 + x0)), (1, .int x1), (2, .int x2), (3, .int y3), (4, .int y4)] [] hh (self5 (y3, y4, hh))) : Zr zi b0 YX1_follow 2 31 [(0, .ref (b0 + x0)), (1, .int x1), (2, .int x2), (3, .int x3), (4, .int x4)] [] h (bX1_follow_31 self5 x0 x1 x2 x3 x4 h) := by
  unfold bX1_follow_31
  refine z_iinc (lv2 := [(4, .int (x4 + (nI 1))), (0, .ref (b0 + x0)), (1, .int x1), (2, .int x2), (3, .int x3)]) (nI 1) 34 4 dX1_follow_31 rfl rfl zki_1 (Nat.le_of_ble_eq_true rfl) rfl ?_
  refine z_goto 5 dX1_follow_34 (by decide) ?_
  exact z_sub [1, 2, 3, 4, 0] rfl (hself5 x3 (x4 + (nI 1)) h)
def kX1_follow_5 (x0 : Nat) (x1 : Int32) (x2 : Int32) (self5 : Int32 × Int32 × ZH → Option (Int32 × ZH)) (x3 : Int32) (x4 : Int32) (h : ZH) : Option (Int32 × ZH) :=
  if (nI 8) ≤ x4 then (some (x3, h)) else
  (if ((jshr x1 x4) &&& (nI 1)) = 0 then (bX1_follow_31 self5 x0 x1 x2 x3 x4 h) else
  ((fX1_row x0 x4 x2 h).bind fun q3 =>
  zl (x3 ||| q3.1) fun v4 =>
  bX1_follow_31 self5 x0 x1 x2 v4 x4 q3.2))
def lX1_follow_5 (x0 : Nat) (x1 : Int32) (x2 : Int32) : (Int32 × Int32 × ZH → Option (Int32 × ZH)) → Int32 × Int32 × ZH → Option (Int32 × ZH) := fun self s => kX1_follow_5 x0 x1 x2 self s.1 s.2.1 s.2.2
theorem KX1_follow_5 (b0 : Nat) (x0 : Nat) (x1 : Int32) (x2 : Int32) (self5 : Int32 × Int32 × ZH → Option (Int32 × ZH)) (hself5 : ∀ (y3 : Int32) (y4 : Int32) (hh : ZH), Zr zi b0 YX1_follow 2 5 [(0, .ref (b0 + x0)), (1, .int x1), (2, .int x2), (3, .int y3), (4, .int y4)] [] hh (self5 (y3, y4, hh))) (x3 : Int32) (x4 : Int32) (h : ZH) : Zr zi b0 YX1_follow 2 5 [(0, .ref (b0 + x0)), (1, .int x1), (2, .int x2), (3, .int x3), (4, .int x4)] [] h (kX1_follow_5 x0 x1 x2 self5 x3 x4 h) := by
  unfold kX1_follow_5
  refine z_iload 7 4 dX1_follow_5 rfl rfl ?_
  refine z_bipush (nI 8) 9 zkb_8 dX1_follow_7 rfl ?_
  refine z_icmp_ge 37 12 dX1_follow_9 (by decide) rfl (fun c1 => ?_) (fun c1 => ?_)
  · refine z_iload_n 38 3 dX1_follow_37 rfl rfl ?_
    exact z_ireturn dX1_follow_38 rfl
  · refine z_iload_n 13 1 dX1_follow_12 rfl rfl ?_
    refine z_iload 15 4 dX1_follow_13 rfl rfl ?_
    refine z_ishr 16 dX1_follow_15 rfl ?_
    refine z_iconst (nI 1) 17 zki_1 dX1_follow_16 rfl ?_
    refine z_iand 18 dX1_follow_17 rfl ?_
    refine z_if_eq 31 21 dX1_follow_18 (by decide) rfl (fun c2 => ?_) (fun c2 => ?_)
    · exact z_sub [0, 1, 2, 3, 4] rfl (BX1_follow_31 b0 self5 x0 x1 x2 x3 x4 h hself5)
    · refine z_iload_n 22 3 dX1_follow_21 rfl rfl ?_
      refine z_aload_n 23 0 dX1_follow_22 rfl rfl ?_
      refine z_iload 25 4 dX1_follow_23 rfl rfl ?_
      refine z_iload_n 26 2 dX1_follow_25 rfl rfl ?_
      refine z_callVi 29 (mX1_row b0 x0 x4 x2 h) zyX1_row rfl w_351 (ci := 1) rfl (Nat.le_of_ble_eq_true rfl) (fun _ e9 => kX1_row e9) wm_yX1_row ws_yX1_row (Nat.le_of_ble_eq_true rfl) rfl (Nat.le_of_ble_eq_true rfl) dX1_follow_26 rfl (fun q3 => ?_)
      refine z_ior 30 dX1_follow_29 rfl ?_
      refine z_letI (fun v4 _ => ?_)
      refine z_istore_n (lv2 := [(3, .int v4), (0, .ref (b0 + x0)), (1, .int x1), (2, .int x2), (4, .int x4)]) 31 dX1_follow_30 rfl (Nat.le_of_ble_eq_true rfl) rfl ?_
      exact z_sub [1, 2, 3, 0, 4] rfl (BX1_follow_31 b0 self5 x0 x1 x2 v4 x4 q3.2 hself5)
theorem BX1_follow_5 (b0 : Nat) (x0 : Nat) (x1 : Int32) (x2 : Int32) (n : Nat) (x3 : Int32) (x4 : Int32) (h : ZH) : Zr zi b0 YX1_follow 2 5 [(0, .ref (b0 + x0)), (1, .int x1), (2, .int x2), (3, .int x3), (4, .int x4)] [] h (zloop (lX1_follow_5 x0 x1 x2) n (x3, x4, h)) :=
  zloop_Zr (fun s => [(0, .ref (b0 + x0)), (1, .int x1), (2, .int x2), (3, .int s.1), (4, .int s.2.1)]) (fun _ => []) (fun s => s.2.2) (lX1_follow_5 x0 x1 x2) (fun self hs s => KX1_follow_5 b0 x0 x1 x2 self (fun y3 y4 hh => hs (y3, y4, hh)) s.1 s.2.1 s.2.2) n (x3, x4, h)
def fX1_follow (x0 : Nat) (x1 : Int32) (x2 : Int32) (h : ZH) : Option (Int32 × ZH) :=
  if x0 < zn h ∧ zK h x0 = 1 then (zloop (lX1_follow_5 x0 x1 x2) zfu ((nI 0), (nI 0), h)) else none
theorem kX1_follow {x0 : Nat} {x1 : Int32} {x2 : Int32} {h : ZH} {x : Int32 × ZH} (e : fX1_follow x0 x1 x2 h = some x) : x0 < zn h ∧ zK h x0 = 1 := by
  unfold fX1_follow at e
  exact zguard e
theorem mX1_follow (b0 : Nat) (x0 : Nat) (x1 : Int32) (x2 : Int32) (h : ZH) : ZM zi b0 YX1_follow 2 [.ref (b0 + x0), .int x1, .int x2] h (fX1_follow x0 x1 x2 h) := by
  unfold fX1_follow
  refine ZM.of (by decide) rfl (Nat.le_of_ble_eq_true rfl) (fun _ => trivial) ?_
  refine z_sub (lv2 := [(0, .ref (b0 + x0)), (1, .int x1), (2, .int x2)]) [0, 1, 2] rfl ?_
  refine z_guard (fun _ => ?_)
  refine z_iconst (nI 0) 1 zki_0 dX1_follow_0 rfl ?_
  refine z_istore_n (lv2 := [(3, .int (nI 0)), (0, .ref (b0 + x0)), (1, .int x1), (2, .int x2)]) 2 dX1_follow_1 rfl (Nat.le_of_ble_eq_true rfl) rfl ?_
  refine z_iconst (nI 0) 3 zki_0 dX1_follow_2 rfl ?_
  refine z_istore (lv2 := [(4, .int (nI 0)), (3, .int (nI 0)), (0, .ref (b0 + x0)), (1, .int x1), (2, .int x2)]) 5 dX1_follow_3 rfl (Nat.le_of_ble_eq_true rfl) rfl ?_
  exact z_sub [2, 3, 4, 1, 0] rfl (BX1_follow_5 b0 x0 x1 x2 zfu (nI 0) (nI 0) h)
-- X6_note
def bX6_note_84 (x0 : Nat) (x1 : Int32) (h : ZH) : Option (Int32 × ZH) :=
  (gR h 6 x0 1).bind fun v1 =>
  (lI h 14 v1 x1).bind fun v2 =>
  some (v2, h)
theorem BX6_note_84 (b0 : Nat) (x0 : Nat) (x1 : Int32) (h : ZH) : Zr zi b0 YX6_note 1 84 [(0, .ref (b0 + x0)), (1, .int x1)] [] h (bX6_note_84 x0 x1 h) := by
  unfold bX6_note_84
  refine z_aload_n 85 0 dX6_note_84 rfl rfl ?_
  refine z_getR 88 zC6 (Nat.le_of_ble_eq_true rfl) rfl w_82 dX6_note_85 rfl (fun v1 _ => ?_)
  refine z_iload_n 89 1 dX6_note_88 rfl rfl ?_
  refine z_iaload 90 dX6_note_89 rfl (fun v2 _ => ?_)
  exact z_ireturn dX6_note_90 rfl
def bX6_note_11 (h : ZH) : Option (Int32 × ZH) :=
  some ((nI 255), h)
theorem BX6_note_11 (b0 : Nat) (h : ZH) : Zr zi b0 YX6_note 1 11 [] [] h (bX6_note_11 h) := by
  unfold bX6_note_11
  refine z_sipush (nI 255) 14 zks_255 dX6_note_11 rfl ?_
  exact z_ireturn dX6_note_14 rfl
def fX6_note (x0 : Nat) (x1 : Int32) (x2 : Int32) (h : ZH) : Option (Int32 × ZH) :=
  if x0 < zn h ∧ zK h x0 = 6 then (if x1 ≤ 0 then (bX6_note_11 h) else
  (if x1 < (nI 256) then ((gR h 6 x0 1).bind fun v3 =>
  (lI h 14 v3 x1).bind fun v4 =>
  if v4 = (nI 255) then ((gI h 6 x0 5).bind fun v6 =>
  if v6 < 0 then (bX6_note_84 x0 x1 h) else
  ((gI h 6 x0 5).bind fun v8 =>
  if (nI 255) ≤ v8 then (bX6_note_84 x0 x1 h) else
  ((gR h 6 x0 1).bind fun v10 =>
  (gI h 6 x0 5).bind fun v11 =>
  (sI h 14 v10 x1 v11).bind fun h12 =>
  (gR h12 6 x0 0).bind fun v13 =>
  (gI h12 6 x0 5).bind fun v14 =>
  (sI h12 14 v13 v14 x1).bind fun h15 =>
  (gR h15 6 x0 3).bind fun v16 =>
  (gI h15 6 x0 5).bind fun v17 =>
  (sI h15 14 v16 v17 x2).bind fun h18 =>
  (gI h18 6 x0 5).bind fun v19 =>
  (pI h18 6 x0 5 (v19 + (nI 1))).bind fun h20 =>
  bX6_note_84 x0 x1 h20))) else
  (bX6_note_84 x0 x1 h)) else
  (bX6_note_11 h))) else none
theorem kX6_note {x0 : Nat} {x1 : Int32} {x2 : Int32} {h : ZH} {x : Int32 × ZH} (e : fX6_note x0 x1 x2 h = some x) : x0 < zn h ∧ zK h x0 = 6 := by
  unfold fX6_note at e
  exact zguard e
theorem mX6_note (b0 : Nat) (x0 : Nat) (x1 : Int32) (x2 : Int32) (h : ZH) : ZM zi b0 YX6_note 1 [.ref (b0 + x0), .int x1, .int x2] h (fX6_note x0 x1 x2 h) := by
  unfold fX6_note
  refine ZM.of (by decide) rfl (Nat.le_of_ble_eq_true rfl) (fun _ => trivial) ?_
  refine z_sub (lv2 := [(0, .ref (b0 + x0)), (1, .int x1), (2, .int x2)]) [0, 1, 2] rfl ?_
  refine z_guard (fun _ => ?_)
  refine z_iload_n 1 1 dX6_note_0 rfl rfl ?_
  refine z_if_le 11 4 dX6_note_1 (by decide) rfl (fun c1 => ?_) (fun c1 => ?_)
  · exact z_sub [] rfl (BX6_note_11 b0 h )
  · refine z_iload_n 5 1 dX6_note_4 rfl rfl ?_
    refine z_sipush (nI 256) 8 zks_256 dX6_note_5 rfl ?_
    refine z_icmp_lt 15 11 dX6_note_8 (by decide) rfl (fun c2 => ?_) (fun c2 => ?_)
    · refine z_aload_n 16 0 dX6_note_15 rfl rfl ?_
      refine z_getR 19 zC6 (Nat.le_of_ble_eq_true rfl) rfl w_82 dX6_note_16 rfl (fun v3 _ => ?_)
      refine z_iload_n 20 1 dX6_note_19 rfl rfl ?_
      refine z_iaload 21 dX6_note_20 rfl (fun v4 _ => ?_)
      refine z_sipush (nI 255) 24 zks_255 dX6_note_21 rfl ?_
      refine z_icmp_ne 84 27 dX6_note_24 (by decide) rfl (fun c5 => ?_) (fun c5 => ?_)
      · exact z_sub [0, 1] rfl (BX6_note_84 b0 x0 x1 h )
      · refine z_aload_n 28 0 dX6_note_27 rfl rfl ?_
        refine z_getI 31 zC6 (Nat.le_of_ble_eq_true rfl) rfl w_86 dX6_note_28 rfl (fun v6 _ => ?_)
        refine z_if_lt 84 34 dX6_note_31 (by decide) rfl (fun c7 => ?_) (fun c7 => ?_)
        · exact z_sub [0, 1] rfl (BX6_note_84 b0 x0 x1 h )
        · refine z_aload_n 35 0 dX6_note_34 rfl rfl ?_
          refine z_getI 38 zC6 (Nat.le_of_ble_eq_true rfl) rfl w_86 dX6_note_35 rfl (fun v8 _ => ?_)
          refine z_sipush (nI 255) 41 zks_255 dX6_note_38 rfl ?_
          refine z_icmp_ge 84 44 dX6_note_41 (by decide) rfl (fun c9 => ?_) (fun c9 => ?_)
          · exact z_sub [0, 1] rfl (BX6_note_84 b0 x0 x1 h )
          · refine z_aload_n 45 0 dX6_note_44 rfl rfl ?_
            refine z_getR 48 zC6 (Nat.le_of_ble_eq_true rfl) rfl w_82 dX6_note_45 rfl (fun v10 _ => ?_)
            refine z_iload_n 49 1 dX6_note_48 rfl rfl ?_
            refine z_aload_n 50 0 dX6_note_49 rfl rfl ?_
            refine z_getI 53 zC6 (Nat.le_of_ble_eq_true rfl) rfl w_86 dX6_note_50 rfl (fun v11 _ => ?_)
            refine z_iastore 54 dX6_note_53 rfl (fun h12 _ => ?_)
            refine z_aload_n 55 0 dX6_note_54 rfl rfl ?_
            refine z_getR 58 zC6 (Nat.le_of_ble_eq_true rfl) rfl w_81 dX6_note_55 rfl (fun v13 _ => ?_)
            refine z_aload_n 59 0 dX6_note_58 rfl rfl ?_
            refine z_getI 62 zC6 (Nat.le_of_ble_eq_true rfl) rfl w_86 dX6_note_59 rfl (fun v14 _ => ?_)
            refine z_iload_n 63 1 dX6_note_62 rfl rfl ?_
            refine z_iastore 64 dX6_note_63 rfl (fun h15 _ => ?_)
            refine z_aload_n 65 0 dX6_note_64 rfl rfl ?_
            refine z_getR 68 zC6 (Nat.le_of_ble_eq_true rfl) rfl w_84 dX6_note_65 rfl (fun v16 _ => ?_)
            refine z_aload_n 69 0 dX6_note_68 rfl rfl ?_
            refine z_getI 72 zC6 (Nat.le_of_ble_eq_true rfl) rfl w_86 dX6_note_69 rfl (fun v17 _ => ?_)
            refine z_iload_n 73 2 dX6_note_72 rfl rfl ?_
            refine z_iastore 74 dX6_note_73 rfl (fun h18 _ => ?_)
            refine z_aload_n 75 0 dX6_note_74 rfl rfl ?_
            refine z_dup 76 rfl dX6_note_75 rfl ?_
            refine z_getI 79 zC6 (Nat.le_of_ble_eq_true rfl) rfl w_86 dX6_note_76 rfl (fun v19 _ => ?_)
            refine z_iconst (nI 1) 80 zki_1 dX6_note_79 rfl ?_
            refine z_iadd 81 dX6_note_80 rfl ?_
            refine z_putI 84 zC6 (Nat.le_of_ble_eq_true rfl) rfl rfl rfl w_86 dX6_note_81 rfl (fun h20 _ => ?_)
            exact z_sub [0, 1] rfl (BX6_note_84 b0 x0 x1 h20 )
    · exact z_sub [] rfl (BX6_note_11 b0 h )
-- X6_build
def bX6_build_92 (h : ZH) : Option (ZH) :=
  some h
theorem BX6_build_92 (b0 : Nat) (h : ZH) : Zr zv b0 YX6_build 4 92 [] [] h (bX6_build_92 h) := by
  unfold bX6_build_92
  exact z_return dX6_build_92 rfl
def kX6_build_44 (self27 : Int32 × ZH → Option (ZH)) (x0 : Nat) (x1 : Nat) (x2 : Int32) (self44 : Int32 × ZH → Option (ZH)) (x3 : Int32) (h : ZH) : Option (ZH) :=
  if (nI 4) ≤ x3 then (self27 ((x2 + (nI 1)), h)) else
  (zl (((nI 4) * x2) + x3) fun v2 =>
  (gR h 6 x0 2).bind fun v3 =>
  (gR h 6 x0 0).bind fun v4 =>
  (lI h 14 v4 x2).bind fun v5 =>
  (fX1_follow x1 v5 x3 h).bind fun q6 =>
  (fX6_note x0 q6.1 v2 q6.2).bind fun q7 =>
  (sI q7.2 14 v3 v2 q7.1).bind fun h8 =>
  self44 ((x3 + (nI 1)), h8))
def lX6_build_44 (self27 : Int32 × ZH → Option (ZH)) (x0 : Nat) (x1 : Nat) (x2 : Int32) : (Int32 × ZH → Option (ZH)) → Int32 × ZH → Option (ZH) := fun self s => kX6_build_44 self27 x0 x1 x2 self s.1 s.2
theorem KX6_build_44 (b0 : Nat) (self27 : Int32 × ZH → Option (ZH)) (x0 : Nat) (x1 : Nat) (x2 : Int32) (hself27 : ∀ (y2 : Int32) (hh : ZH), Zr zv b0 YX6_build 4 27 [(0, .ref (b0 + x0)), (1, .ref (b0 + x1)), (2, .int y2)] [] hh (self27 (y2, hh))) (self44 : Int32 × ZH → Option (ZH)) (hself44 : ∀ (y3 : Int32) (hh : ZH), Zr zv b0 YX6_build 4 44 [(0, .ref (b0 + x0)), (1, .ref (b0 + x1)), (2, .int x2), (3, .int y3)] [] hh (self44 (y3, hh))) (x3 : Int32) (h : ZH) : Zr zv b0 YX6_build 4 44 [(0, .ref (b0 + x0)), (1, .ref (b0 + x1)), (2, .int x2), (3, .int x3)] [] h (kX6_build_44 self27 x0 x1 x2 self44 x3 h) := by
  unfold kX6_build_44
  refine z_iload_n 45 3 dX6_build_44 rfl rfl ?_
  refine z_iconst (nI 4) 46 zki_4 dX6_build_45 rfl ?_
  refine z_icmp_ge 86 49 dX6_build_46 (by decide) rfl (fun c1 => ?_) (fun c1 => ?_)
  · refine z_iinc (lv2 := [(2, .int (x2 + (nI 1))), (0, .ref (b0 + x0)), (1, .ref (b0 + x1)), (3, .int x3)]) (nI 1) 89 2 dX6_build_86 rfl rfl zki_1 (Nat.le_of_ble_eq_true rfl) rfl ?_
    refine z_goto 27 dX6_build_89 (by decide) ?_
    exact z_sub [1, 2, 0] rfl (hself27 (x2 + (nI 1)) h)
  · refine z_iconst (nI 4) 50 zki_4 dX6_build_49 rfl ?_
    refine z_iload_n 51 2 dX6_build_50 rfl rfl ?_
    refine z_imul 52 dX6_build_51 rfl ?_
    refine z_iload_n 53 3 dX6_build_52 rfl rfl ?_
    refine z_iadd 54 dX6_build_53 rfl ?_
    refine z_letI (fun v2 _ => ?_)
    refine z_istore (lv2 := [(4, .int v2), (0, .ref (b0 + x0)), (1, .ref (b0 + x1)), (2, .int x2), (3, .int x3)]) 56 dX6_build_54 rfl (Nat.le_of_ble_eq_true rfl) rfl ?_
    refine z_aload_n 57 1 dX6_build_56 rfl rfl ?_
    refine z_getR 60 zC6 (Nat.le_of_ble_eq_true rfl) rfl w_83 dX6_build_57 rfl (fun v3 _ => ?_)
    refine z_iload 62 0 dX6_build_60 rfl rfl ?_
    refine z_aload_n 63 1 dX6_build_62 rfl rfl ?_
    refine z_aload_n 64 2 dX6_build_63 rfl rfl ?_
    refine z_aload_n 65 1 dX6_build_64 rfl rfl ?_
    refine z_getR 68 zC6 (Nat.le_of_ble_eq_true rfl) rfl w_81 dX6_build_65 rfl (fun v4 _ => ?_)
    refine z_iload_n 69 3 dX6_build_68 rfl rfl ?_
    refine z_iaload 70 dX6_build_69 rfl (fun v5 _ => ?_)
    refine z_iload_n 71 4 dX6_build_70 rfl rfl ?_
    refine z_callVi 74 (mX1_follow b0 x1 v5 x3 h) zyX1_follow rfl w_487 (ci := 1) rfl (Nat.le_of_ble_eq_true rfl) (fun _ e9 => kX1_follow e9) wm_yX1_follow ws_yX1_follow (Nat.le_of_ble_eq_true rfl) rfl (Nat.le_of_ble_eq_true rfl) dX6_build_71 rfl (fun q6 => ?_)
    refine z_iload 76 0 dX6_build_74 rfl rfl ?_
    refine z_callVi 79 (mX6_note b0 x0 q6.1 v2 q6.2) zyX6_note rfl w_483 (ci := 6) rfl (Nat.le_of_ble_eq_true rfl) (fun _ e9 => kX6_note e9) wm_yX6_note ws_yX6_note (Nat.le_of_ble_eq_true rfl) rfl (Nat.le_of_ble_eq_true rfl) dX6_build_76 rfl (fun q7 => ?_)
    refine z_iastore 80 dX6_build_79 rfl (fun h8 _ => ?_)
    refine z_iinc (lv2 := [(3, .int (x3 + (nI 1))), (4, .int v2), (0, .ref (b0 + x0)), (1, .ref (b0 + x1)), (2, .int x2)]) (nI 1) 83 4 dX6_build_80 rfl rfl zki_1 (Nat.le_of_ble_eq_true rfl) rfl ?_
    refine z_goto 44 dX6_build_83 (by decide) ?_
    exact z_sub [2, 3, 4, 0] rfl (hself44 (x3 + (nI 1)) h8)
theorem BX6_build_44 (b0 : Nat) (self27 : Int32 × ZH → Option (ZH)) (x0 : Nat) (x1 : Nat) (x2 : Int32) (hself27 : ∀ (y2 : Int32) (hh : ZH), Zr zv b0 YX6_build 4 27 [(0, .ref (b0 + x0)), (1, .ref (b0 + x1)), (2, .int y2)] [] hh (self27 (y2, hh))) (n : Nat) (x3 : Int32) (h : ZH) : Zr zv b0 YX6_build 4 44 [(0, .ref (b0 + x0)), (1, .ref (b0 + x1)), (2, .int x2), (3, .int x3)] [] h (zloop (lX6_build_44 self27 x0 x1 x2) n (x3, h)) :=
  zloop_Zr (fun s => [(0, .ref (b0 + x0)), (1, .ref (b0 + x1)), (2, .int x2), (3, .int s.1)]) (fun _ => []) (fun s => s.2) (lX6_build_44 self27 x0 x1 x2) (fun self hs s => KX6_build_44 b0 self27 x0 x1 x2 hself27 self (fun y3 hh => hs (y3, hh)) s.1 s.2) n (x3, h)
def kX6_build_27 (x0 : Nat) (x1 : Nat) (self27 : Int32 × ZH → Option (ZH)) (x2 : Int32) (h : ZH) : Option (ZH) :=
  (gI h 6 x0 5).bind fun v1 =>
  if v1 ≤ x2 then (bX6_build_92 h) else
  (if (nI 255) ≤ x2 then (bX6_build_92 h) else
  (zloop (lX6_build_44 self27 x0 x1 x2) zfu ((nI 0), h)))
def lX6_build_27 (x0 : Nat) (x1 : Nat) : (Int32 × ZH → Option (ZH)) → Int32 × ZH → Option (ZH) := fun self s => kX6_build_27 x0 x1 self s.1 s.2
theorem KX6_build_27 (b0 : Nat) (x0 : Nat) (x1 : Nat) (self27 : Int32 × ZH → Option (ZH)) (hself27 : ∀ (y2 : Int32) (hh : ZH), Zr zv b0 YX6_build 4 27 [(0, .ref (b0 + x0)), (1, .ref (b0 + x1)), (2, .int y2)] [] hh (self27 (y2, hh))) (x2 : Int32) (h : ZH) : Zr zv b0 YX6_build 4 27 [(0, .ref (b0 + x0)), (1, .ref (b0 + x1)), (2, .int x2)] [] h (kX6_build_27 x0 x1 self27 x2 h) := by
  unfold kX6_build_27
  refine z_iload_n 28 2 dX6_build_27 rfl rfl ?_
  refine z_aload_n 29 0 dX6_build_28 rfl rfl ?_
  refine z_getI 32 zC6 (Nat.le_of_ble_eq_true rfl) rfl w_86 dX6_build_29 rfl (fun v1 _ => ?_)
  refine z_icmp_ge 92 35 dX6_build_32 (by decide) rfl (fun c2 => ?_) (fun c2 => ?_)
  · exact z_sub [] rfl (BX6_build_92 b0 h )
  · refine z_iload_n 36 2 dX6_build_35 rfl rfl ?_
    refine z_sipush (nI 255) 39 zks_255 dX6_build_36 rfl ?_
    refine z_icmp_ge 92 42 dX6_build_39 (by decide) rfl (fun c3 => ?_) (fun c3 => ?_)
    · exact z_sub [] rfl (BX6_build_92 b0 h )
    · refine z_iconst (nI 0) 43 zki_0 dX6_build_42 rfl ?_
      refine z_istore_n (lv2 := [(3, .int (nI 0)), (0, .ref (b0 + x0)), (1, .ref (b0 + x1)), (2, .int x2)]) 44 dX6_build_43 rfl (Nat.le_of_ble_eq_true rfl) rfl ?_
      exact z_sub [1, 2, 3, 0] rfl (BX6_build_44 b0 self27 x0 x1 x2 hself27 zfu (nI 0) h)
theorem BX6_build_27 (b0 : Nat) (x0 : Nat) (x1 : Nat) (n : Nat) (x2 : Int32) (h : ZH) : Zr zv b0 YX6_build 4 27 [(0, .ref (b0 + x0)), (1, .ref (b0 + x1)), (2, .int x2)] [] h (zloop (lX6_build_27 x0 x1) n (x2, h)) :=
  zloop_Zr (fun s => [(0, .ref (b0 + x0)), (1, .ref (b0 + x1)), (2, .int s.1)]) (fun _ => []) (fun s => s.2) (lX6_build_27 x0 x1) (fun self hs s => KX6_build_27 b0 x0 x1 self (fun y2 hh => hs (y2, hh)) s.1 s.2) n (x2, h)
def fX6_build (x0 : Nat) (x1 : Nat) (h : ZH) : Option (ZH) :=
  if x0 < zn h ∧ zK h x0 = 6 then ((gR h 6 x0 1).bind fun v1 =>
  (fJ7_fill_53178 v1 (nI 255) h).bind fun h2 =>
  (pI h2 6 x0 5 (nI 0)).bind fun h3 =>
  (fX1_core x1 h3).bind fun q4 =>
  (fX6_note x0 q4.1 (nI 0) q4.2).bind fun q5 =>
  zloop (lX6_build_27 x0 x1) zfu ((nI 0), q5.2)) else none
theorem kX6_build {x0 : Nat} {x1 : Nat} {h : ZH} {x : ZH} (e : fX6_build x0 x1 h = some x) : x0 < zn h ∧ zK h x0 = 6 := by
  unfold fX6_build at e
  exact zguard e
theorem mX6_build (b0 : Nat) (x0 : Nat) (x1 : Nat) (h : ZH) : ZM zv b0 YX6_build 4 [.ref (b0 + x0), .ref (b0 + x1)] h (fX6_build x0 x1 h) := by
  unfold fX6_build
  refine ZM.of (by decide) rfl (Nat.le_of_ble_eq_true rfl) (fun _ => trivial) ?_
  refine z_sub (lv2 := [(0, .ref (b0 + x0)), (1, .ref (b0 + x1))]) [0, 1] rfl ?_
  refine z_guard (fun _ => ?_)
  refine z_aload_n 1 0 dX6_build_0 rfl rfl ?_
  refine z_getR 4 zC6 (Nat.le_of_ble_eq_true rfl) rfl w_82 dX6_build_1 rfl (fun v1 _ => ?_)
  refine z_sipush (nI 255) 7 zks_255 dX6_build_4 rfl ?_
  refine z_callSv 10 (mJ7_fill_53178 b0 v1 (nI 255) h) zyJ7_fill_53178 rfl w_481 wt_yJ7_fill_53178 (Nat.le_of_ble_eq_true rfl) rfl (Nat.le_of_ble_eq_true rfl) dX6_build_7 rfl (fun h2 => ?_)
  refine z_aload_n 11 0 dX6_build_10 rfl rfl ?_
  refine z_iconst (nI 0) 12 zki_0 dX6_build_11 rfl ?_
  refine z_putI 15 zC6 (Nat.le_of_ble_eq_true rfl) rfl rfl rfl w_86 dX6_build_12 rfl (fun h3 _ => ?_)
  refine z_aload_n 16 0 dX6_build_15 rfl rfl ?_
  refine z_aload_n 17 1 dX6_build_16 rfl rfl ?_
  refine z_callVi 20 (mX1_core b0 x1 h3) zyX1_core rfl w_482 (ci := 1) rfl (Nat.le_of_ble_eq_true rfl) (fun _ e9 => kX1_core e9) wm_yX1_core ws_yX1_core (Nat.le_of_ble_eq_true rfl) rfl (Nat.le_of_ble_eq_true rfl) dX6_build_17 rfl (fun q4 => ?_)
  refine z_iconst (nI 0) 21 zki_0 dX6_build_20 rfl ?_
  refine z_callVi 24 (mX6_note b0 x0 q4.1 (nI 0) q4.2) zyX6_note rfl w_483 (ci := 6) rfl (Nat.le_of_ble_eq_true rfl) (fun _ e9 => kX6_note e9) wm_yX6_note ws_yX6_note (Nat.le_of_ble_eq_true rfl) rfl (Nat.le_of_ble_eq_true rfl) dX6_build_21 rfl (fun q5 => ?_)
  refine z_pop 25 rfl dX6_build_24 rfl ?_
  refine z_iconst (nI 0) 26 zki_0 dX6_build_25 rfl ?_
  refine z_istore_n (lv2 := [(2, .int (nI 0)), (0, .ref (b0 + x0)), (1, .ref (b0 + x1))]) 27 dX6_build_26 rfl (Nat.le_of_ble_eq_true rfl) rfl ?_
  exact z_sub [1, 2, 0] rfl (BX6_build_27 b0 x0 x1 zfu (nI 0) q5.2)
-- X0_build
def fX0_build (x0 : Nat) (x1 : Nat) (h : ZH) : Option (Int32 × ZH) :=
  if x0 < zn h ∧ zK h x0 = 0 then ((fX0_findLastComponent x0 x1 h).bind fun h1 =>
  (fX0_mergeMembers x0 x1 h1).bind fun q2 =>
  if q2.1 = 0 then (if (nI 0) = 0 ∨ (nI 0) = 1 then some ((nI 0), q2.2) else none) else
  ((fX0_linkClasses x0 x1 q2.2).bind fun h4 =>
  (gR h4 0 x0 9).bind fun v5 =>
  (gR h4 0 x0 8).bind fun v6 =>
  (fX6_build v5 v6 h4).bind fun h7 =>
  (fX0_findReset x0 h7).bind fun h8 =>
  (fX0_numberVertices x0 h8).bind fun h9 =>
  if (nI 1) = 0 ∨ (nI 1) = 1 then some ((nI 1), h9) else none)) else none
theorem kX0_build {x0 : Nat} {x1 : Nat} {h : ZH} {x : Int32 × ZH} (e : fX0_build x0 x1 h = some x) : x0 < zn h ∧ zK h x0 = 0 := by
  unfold fX0_build at e
  exact zguard e
theorem mX0_build (b0 : Nat) (x0 : Nat) (x1 : Nat) (h : ZH) : ZM zi b0 YX0_build 5 [.ref (b0 + x0), .ref (b0 + x1)] h (fX0_build x0 x1 h) := by
  unfold fX0_build
  refine ZM.of (by decide) rfl (Nat.le_of_ble_eq_true rfl) (fun _ => trivial) ?_
  refine z_sub (lv2 := [(0, .ref (b0 + x0)), (1, .ref (b0 + x1))]) [0, 1] rfl ?_
  refine z_guard (fun _ => ?_)
  refine z_aload_n 1 0 dX0_build_0 rfl rfl ?_
  refine z_aload_n 2 1 dX0_build_1 rfl rfl ?_
  refine z_callVv 5 (mX0_findLastComponent b0 x0 x1 h) zyX0_findLastComponent rfl w_643 (ci := 0) rfl (Nat.le_of_ble_eq_true rfl) (fun _ e9 => kX0_findLastComponent e9) wm_yX0_findLastComponent ws_yX0_findLastComponent (Nat.le_of_ble_eq_true rfl) rfl (Nat.le_of_ble_eq_true rfl) dX0_build_2 rfl (fun h1 => ?_)
  refine z_aload_n 6 0 dX0_build_5 rfl rfl ?_
  refine z_aload_n 7 1 dX0_build_6 rfl rfl ?_
  refine z_callVi 10 (mX0_mergeMembers b0 x0 x1 h1) zyX0_mergeMembers rfl w_671 (ci := 0) rfl (Nat.le_of_ble_eq_true rfl) (fun _ e9 => kX0_mergeMembers e9) wm_yX0_mergeMembers ws_yX0_mergeMembers (Nat.le_of_ble_eq_true rfl) rfl (Nat.le_of_ble_eq_true rfl) dX0_build_7 rfl (fun q2 => ?_)
  refine z_if_ne 15 13 dX0_build_10 (by decide) rfl (fun c3 => ?_) (fun c3 => ?_)
  · refine z_aload_n 16 0 dX0_build_15 rfl rfl ?_
    refine z_aload_n 17 1 dX0_build_16 rfl rfl ?_
    refine z_callVv 20 (mX0_linkClasses b0 x0 x1 q2.2) zyX0_linkClasses rfl w_688 (ci := 0) rfl (Nat.le_of_ble_eq_true rfl) (fun _ e9 => kX0_linkClasses e9) wm_yX0_linkClasses ws_yX0_linkClasses (Nat.le_of_ble_eq_true rfl) rfl (Nat.le_of_ble_eq_true rfl) dX0_build_17 rfl (fun h4 => ?_)
    refine z_aload_n 21 0 dX0_build_20 rfl rfl ?_
    refine z_getR 24 zC0 (Nat.le_of_ble_eq_true rfl) rfl w_152 dX0_build_21 rfl (fun v5 _ => ?_)
    refine z_aload_n 25 0 dX0_build_24 rfl rfl ?_
    refine z_getR 28 zC0 (Nat.le_of_ble_eq_true rfl) rfl w_151 dX0_build_25 rfl (fun v6 _ => ?_)
    refine z_callVv 31 (mX6_build b0 v5 v6 h4) zyX6_build rfl w_694 (ci := 6) rfl (Nat.le_of_ble_eq_true rfl) (fun _ e9 => kX6_build e9) wm_yX6_build ws_yX6_build (Nat.le_of_ble_eq_true rfl) rfl (Nat.le_of_ble_eq_true rfl) dX0_build_28 rfl (fun h7 => ?_)
    refine z_aload_n 32 0 dX0_build_31 rfl rfl ?_
    refine z_callVv 35 (mX0_findReset b0 x0 h7) zyX0_findReset rfl w_695 (ci := 0) rfl (Nat.le_of_ble_eq_true rfl) (fun _ e9 => kX0_findReset e9) wm_yX0_findReset ws_yX0_findReset (Nat.le_of_ble_eq_true rfl) rfl (Nat.le_of_ble_eq_true rfl) dX0_build_32 rfl (fun h8 => ?_)
    refine z_aload_n 36 0 dX0_build_35 rfl rfl ?_
    refine z_callVv 39 (mX0_numberVertices b0 x0 h8) zyX0_numberVertices rfl w_704 (ci := 0) rfl (Nat.le_of_ble_eq_true rfl) (fun _ e9 => kX0_numberVertices e9) wm_yX0_numberVertices ws_yX0_numberVertices (Nat.le_of_ble_eq_true rfl) rfl (Nat.le_of_ble_eq_true rfl) dX0_build_36 rfl (fun h9 => ?_)
    refine z_iconst (nI 1) 40 zki_1 dX0_build_39 rfl ?_
    exact z_zreturn dX0_build_40 rfl
  · refine z_iconst (nI 0) 14 zki_0 dX0_build_13 rfl ?_
    exact z_zreturn dX0_build_14 rfl
-- X0_size
def fX0_size (x0 : Nat) (h : ZH) : Option (Int32 × ZH) :=
  if x0 < zn h ∧ zK h x0 = 0 then ((gI h 0 x0 7).bind fun v1 =>
  some (v1, h)) else none
theorem kX0_size {x0 : Nat} {h : ZH} {x : Int32 × ZH} (e : fX0_size x0 h = some x) : x0 < zn h ∧ zK h x0 = 0 := by
  unfold fX0_size at e
  exact zguard e
theorem mX0_size (b0 : Nat) (x0 : Nat) (h : ZH) : ZM zi b0 YX0_size 1 [.ref (b0 + x0)] h (fX0_size x0 h) := by
  unfold fX0_size
  refine ZM.of (by decide) rfl (Nat.le_of_ble_eq_true rfl) (fun _ => trivial) ?_
  refine z_sub (lv2 := [(0, .ref (b0 + x0))]) [0] rfl ?_
  refine z_guard (fun _ => ?_)
  refine z_aload_n 1 0 dX0_size_0 rfl rfl ?_
  refine z_getI 4 zC0 (Nat.le_of_ble_eq_true rfl) rfl w_150 dX0_size_1 rfl (fun v1 _ => ?_)
  exact z_ireturn dX0_size_4 rfl
-- X0_shape
def fX0_shape (x0 : Nat) (h : ZH) : Option (Nat × ZH) :=
  if x0 < zn h ∧ zK h x0 = 0 then ((gR h 0 x0 13).bind fun v1 =>
  some (v1, h)) else none
theorem kX0_shape {x0 : Nat} {h : ZH} {x : Nat × ZH} (e : fX0_shape x0 h = some x) : x0 < zn h ∧ zK h x0 = 0 := by
  unfold fX0_shape at e
  exact zguard e
theorem mX0_shape (b0 : Nat) (x0 : Nat) (h : ZH) : ZM (zr b0) b0 YX0_shape 1 [.ref (b0 + x0)] h (fX0_shape x0 h) := by
  unfold fX0_shape
  refine ZM.of (by decide) rfl (Nat.le_of_ble_eq_true rfl) (fun _ => trivial) ?_
  refine z_sub (lv2 := [(0, .ref (b0 + x0))]) [0] rfl ?_
  refine z_guard (fun _ => ?_)
  refine z_aload_n 1 0 dX0_shape_0 rfl rfl ?_
  refine z_getR 4 zC0 (Nat.le_of_ble_eq_true rfl) rfl w_156 dX0_shape_1 rfl (fun v1 _ => ?_)
  exact z_areturn dX0_shape_4 rfl (Or.inl ⟨_, rfl⟩)
-- X7_add
def bX7_add_19 (h : ZH) : Option (Int32 × ZH) :=
  if (nI 0) = 0 ∨ (nI 0) = 1 then some ((nI 0), h) else none
theorem BX7_add_19 (b0 : Nat) (h : ZH) : Zr zi b0 YX7_add 1 19 [] [] h (bX7_add_19 h) := by
  unfold bX7_add_19
  refine z_iconst (nI 0) 20 zki_0 dX7_add_19 rfl ?_
  exact z_zreturn dX7_add_20 rfl
def fX7_add (x0 : Nat) (x1 : Int32) (h : ZH) : Option (Int32 × ZH) :=
  if x0 < zn h ∧ zK h x0 = 7 then ((gI h 7 x0 1).bind fun v1 =>
  if v1 < 0 then (bX7_add_19 h) else
  ((gI h 7 x0 1).bind fun v3 =>
  (gR h 7 x0 0).bind fun v4 =>
  (zlen h v4).bind fun v5 =>
  if v3 < v5 then ((gR h 7 x0 0).bind fun v7 =>
  (gI h 7 x0 1).bind fun v8 =>
  (sI h 12 v7 v8 (ji2c x1)).bind fun h9 =>
  (gI h9 7 x0 1).bind fun v10 =>
  (pI h9 7 x0 1 (v10 + (nI 1))).bind fun h11 =>
  if (nI 1) = 0 ∨ (nI 1) = 1 then some ((nI 1), h11) else none) else
  (bX7_add_19 h))) else none
theorem kX7_add {x0 : Nat} {x1 : Int32} {h : ZH} {x : Int32 × ZH} (e : fX7_add x0 x1 h = some x) : x0 < zn h ∧ zK h x0 = 7 := by
  unfold fX7_add at e
  exact zguard e
theorem mX7_add (b0 : Nat) (x0 : Nat) (x1 : Int32) (h : ZH) : ZM zi b0 YX7_add 1 [.ref (b0 + x0), .int x1] h (fX7_add x0 x1 h) := by
  unfold fX7_add
  refine ZM.of (by decide) rfl (Nat.le_of_ble_eq_true rfl) (fun _ => trivial) ?_
  refine z_sub (lv2 := [(0, .ref (b0 + x0)), (1, .int x1)]) [0, 1] rfl ?_
  refine z_guard (fun _ => ?_)
  refine z_aload_n 1 0 dX7_add_0 rfl rfl ?_
  refine z_getI 4 zC7 (Nat.le_of_ble_eq_true rfl) rfl w_65 dX7_add_1 rfl (fun v1 _ => ?_)
  refine z_if_lt 19 7 dX7_add_4 (by decide) rfl (fun c2 => ?_) (fun c2 => ?_)
  · exact z_sub [] rfl (BX7_add_19 b0 h )
  · refine z_aload_n 8 0 dX7_add_7 rfl rfl ?_
    refine z_getI 11 zC7 (Nat.le_of_ble_eq_true rfl) rfl w_65 dX7_add_8 rfl (fun v3 _ => ?_)
    refine z_aload_n 12 0 dX7_add_11 rfl rfl ?_
    refine z_getR 15 zC7 (Nat.le_of_ble_eq_true rfl) rfl w_64 dX7_add_12 rfl (fun v4 _ => ?_)
    refine z_alen 16 dX7_add_15 rfl (fun v5 _ => ?_)
    refine z_icmp_lt 21 19 dX7_add_16 (by decide) rfl (fun c6 => ?_) (fun c6 => ?_)
    · refine z_aload_n 22 0 dX7_add_21 rfl rfl ?_
      refine z_getR 25 zC7 (Nat.le_of_ble_eq_true rfl) rfl w_64 dX7_add_22 rfl (fun v7 _ => ?_)
      refine z_aload_n 26 0 dX7_add_25 rfl rfl ?_
      refine z_getI 29 zC7 (Nat.le_of_ble_eq_true rfl) rfl w_65 dX7_add_26 rfl (fun v8 _ => ?_)
      refine z_iload_n 30 1 dX7_add_29 rfl rfl ?_
      refine z_i2c 31 dX7_add_30 rfl ?_
      refine z_castore 32 dX7_add_31 rfl (fun h9 _ => ?_)
      refine z_aload_n 33 0 dX7_add_32 rfl rfl ?_
      refine z_dup 34 rfl dX7_add_33 rfl ?_
      refine z_getI 37 zC7 (Nat.le_of_ble_eq_true rfl) rfl w_65 dX7_add_34 rfl (fun v10 _ => ?_)
      refine z_iconst (nI 1) 38 zki_1 dX7_add_37 rfl ?_
      refine z_iadd 39 dX7_add_38 rfl ?_
      refine z_putI 42 zC7 (Nat.le_of_ble_eq_true rfl) rfl rfl rfl w_65 dX7_add_39 rfl (fun h11 _ => ?_)
      refine z_iconst (nI 1) 43 zki_1 dX7_add_42 rfl ?_
      exact z_zreturn dX7_add_43 rfl
    · exact z_sub [] rfl (BX7_add_19 b0 h )
-- X7_addLetter
def fX7_addLetter (x0 : Nat) (x1 : Int32) (h : ZH) : Option (ZH) :=
  if x0 < zn h ∧ zK h x0 = 7 then ((fX7_add x0 ((nI 97) + x1) h).bind fun q1 =>
  some q1.2) else none
theorem kX7_addLetter {x0 : Nat} {x1 : Int32} {h : ZH} {x : ZH} (e : fX7_addLetter x0 x1 h = some x) : x0 < zn h ∧ zK h x0 = 7 := by
  unfold fX7_addLetter at e
  exact zguard e
theorem mX7_addLetter (b0 : Nat) (x0 : Nat) (x1 : Int32) (h : ZH) : ZM zv b0 YX7_addLetter 2 [.ref (b0 + x0), .int x1] h (fX7_addLetter x0 x1 h) := by
  unfold fX7_addLetter
  refine ZM.of (by decide) rfl (Nat.le_of_ble_eq_true rfl) (fun _ => trivial) ?_
  refine z_sub (lv2 := [(0, .ref (b0 + x0)), (1, .int x1)]) [0, 1] rfl ?_
  refine z_guard (fun _ => ?_)
  refine z_aload_n 1 0 dX7_addLetter_0 rfl rfl ?_
  refine z_bipush (nI 97) 3 zkb_97 dX7_addLetter_1 rfl ?_
  refine z_iload_n 4 1 dX7_addLetter_3 rfl rfl ?_
  refine z_iadd 5 dX7_addLetter_4 rfl ?_
  refine z_callVi 8 (mX7_add b0 x0 ((nI 97) + x1) h) zyX7_add rfl w_546 (ci := 7) rfl (Nat.le_of_ble_eq_true rfl) (fun _ e9 => kX7_add e9) wm_yX7_add ws_yX7_add (Nat.le_of_ble_eq_true rfl) rfl (Nat.le_of_ble_eq_true rfl) dX7_addLetter_5 rfl (fun q1 => ?_)
  refine z_pop 9 rfl dX7_addLetter_8 rfl ?_
  exact z_return dX7_addLetter_9 rfl
-- X7_clear
def fX7_clear (x0 : Nat) (h : ZH) : Option (ZH) :=
  if x0 < zn h ∧ zK h x0 = 7 then ((pI h 7 x0 1 (nI 0)).bind fun h1 =>
  some h1) else none
theorem kX7_clear {x0 : Nat} {h : ZH} {x : ZH} (e : fX7_clear x0 h = some x) : x0 < zn h ∧ zK h x0 = 7 := by
  unfold fX7_clear at e
  exact zguard e
theorem mX7_clear (b0 : Nat) (x0 : Nat) (h : ZH) : ZM zv b0 YX7_clear 1 [.ref (b0 + x0)] h (fX7_clear x0 h) := by
  unfold fX7_clear
  refine ZM.of (by decide) rfl (Nat.le_of_ble_eq_true rfl) (fun _ => trivial) ?_
  refine z_sub (lv2 := [(0, .ref (b0 + x0))]) [0] rfl ?_
  refine z_guard (fun _ => ?_)
  refine z_aload_n 1 0 dX7_clear_0 rfl rfl ?_
  refine z_iconst (nI 0) 2 zki_0 dX7_clear_1 rfl ?_
  refine z_putI 5 zC7 (Nat.le_of_ble_eq_true rfl) rfl rfl rfl w_65 dX7_clear_2 rfl (fun h1 _ => ?_)
  exact z_return dX7_clear_5 rfl
-- X7_turnAround
def kX7_turnAround_17 (x0 : Nat) (self17 : Int32 × Int32 × ZH → Option (ZH)) (x1 : Int32) (x2 : Int32) (h : ZH) : Option (ZH) :=
  if x1 ≤ x2 then (some h) else
  ((gR h 7 x0 0).bind fun v2 =>
  (lI h 12 v2 x2).bind fun v3 =>
  (gR h 7 x0 0).bind fun v4 =>
  (gR h 7 x0 0).bind fun v5 =>
  (lI h 12 v5 x1).bind fun v6 =>
  (sI h 12 v4 x2 v6).bind fun h7 =>
  (gR h7 7 x0 0).bind fun v8 =>
  (sI h7 12 v8 x1 v3).bind fun h9 =>
  self17 ((x1 + (-1 : Int32)), (x2 + (nI 1)), h9))
def lX7_turnAround_17 (x0 : Nat) : (Int32 × Int32 × ZH → Option (ZH)) → Int32 × Int32 × ZH → Option (ZH) := fun self s => kX7_turnAround_17 x0 self s.1 s.2.1 s.2.2
theorem KX7_turnAround_17 (b0 : Nat) (x0 : Nat) (self17 : Int32 × Int32 × ZH → Option (ZH)) (hself17 : ∀ (y1 : Int32) (y2 : Int32) (hh : ZH), Zr zv b0 YX7_turnAround 2 17 [(0, .ref (b0 + x0)), (1, .int y1), (2, .int y2)] [] hh (self17 (y1, y2, hh))) (x1 : Int32) (x2 : Int32) (h : ZH) : Zr zv b0 YX7_turnAround 2 17 [(0, .ref (b0 + x0)), (1, .int x1), (2, .int x2)] [] h (kX7_turnAround_17 x0 self17 x1 x2 h) := by
  unfold kX7_turnAround_17
  refine z_iload_n 18 2 dX7_turnAround_17 rfl rfl ?_
  refine z_iload_n 19 1 dX7_turnAround_18 rfl rfl ?_
  refine z_icmp_ge 57 22 dX7_turnAround_19 (by decide) rfl (fun c1 => ?_) (fun c1 => ?_)
  · exact z_return dX7_turnAround_57 rfl
  · refine z_aload_n 23 0 dX7_turnAround_22 rfl rfl ?_
    refine z_getR 26 zC7 (Nat.le_of_ble_eq_true rfl) rfl w_64 dX7_turnAround_23 rfl (fun v2 _ => ?_)
    refine z_iload_n 27 2 dX7_turnAround_26 rfl rfl ?_
    refine z_caload 28 dX7_turnAround_27 rfl (fun v3 _ => ?_)
    refine z_istore_n (lv2 := [(3, .int v3), (0, .ref (b0 + x0)), (1, .int x1), (2, .int x2)]) 29 dX7_turnAround_28 rfl (Nat.le_of_ble_eq_true rfl) rfl ?_
    refine z_aload_n 30 1 dX7_turnAround_29 rfl rfl ?_
    refine z_getR 33 zC7 (Nat.le_of_ble_eq_true rfl) rfl w_64 dX7_turnAround_30 rfl (fun v4 _ => ?_)
    refine z_iload_n 34 3 dX7_turnAround_33 rfl rfl ?_
    refine z_aload_n 35 1 dX7_turnAround_34 rfl rfl ?_
    refine z_getR 38 zC7 (Nat.le_of_ble_eq_true rfl) rfl w_64 dX7_turnAround_35 rfl (fun v5 _ => ?_)
    refine z_iload_n 39 2 dX7_turnAround_38 rfl rfl ?_
    refine z_caload 40 dX7_turnAround_39 rfl (fun v6 _ => ?_)
    refine z_castore 41 dX7_turnAround_40 rfl (fun h7 _ => ?_)
    refine z_aload_n 42 1 dX7_turnAround_41 rfl rfl ?_
    refine z_getR 45 zC7 (Nat.le_of_ble_eq_true rfl) rfl w_64 dX7_turnAround_42 rfl (fun v8 _ => ?_)
    refine z_iload_n 46 2 dX7_turnAround_45 rfl rfl ?_
    refine z_iload_n 47 0 dX7_turnAround_46 rfl rfl ?_
    refine z_castore 48 dX7_turnAround_47 rfl (fun h9 _ => ?_)
    refine z_iinc (lv2 := [(1, .int (x1 + (-1 : Int32))), (3, .int v3), (0, .ref (b0 + x0)), (2, .int x2)]) (-1 : Int32) 51 2 dX7_turnAround_48 rfl rfl zki_m1 (Nat.le_of_ble_eq_true rfl) rfl ?_
    refine z_iinc (lv2 := [(2, .int (x2 + (nI 1))), (1, .int (x1 + (-1 : Int32))), (3, .int v3), (0, .ref (b0 + x0))]) (nI 1) 54 3 dX7_turnAround_51 rfl rfl zki_1 (Nat.le_of_ble_eq_true rfl) rfl ?_
    refine z_goto 17 dX7_turnAround_54 (by decide) ?_
    exact z_sub [3, 1, 0] rfl (hself17 (x1 + (-1 : Int32)) (x2 + (nI 1)) h9)
theorem BX7_turnAround_17 (b0 : Nat) (x0 : Nat) (n : Nat) (x1 : Int32) (x2 : Int32) (h : ZH) : Zr zv b0 YX7_turnAround 2 17 [(0, .ref (b0 + x0)), (1, .int x1), (2, .int x2)] [] h (zloop (lX7_turnAround_17 x0) n (x1, x2, h)) :=
  zloop_Zr (fun s => [(0, .ref (b0 + x0)), (1, .int s.1), (2, .int s.2.1)]) (fun _ => []) (fun s => s.2.2) (lX7_turnAround_17 x0) (fun self hs s => KX7_turnAround_17 b0 x0 self (fun y1 y2 hh => hs (y1, y2, hh)) s.1 s.2.1 s.2.2) n (x1, x2, h)
def fX7_turnAround (x0 : Nat) (h : ZH) : Option (ZH) :=
  if x0 < zn h ∧ zK h x0 = 7 then ((gI h 7 x0 1).bind fun v1 =>
  (gR h 7 x0 0).bind fun v2 =>
  (zlen h v2).bind fun v3 =>
  zl ((jmmin v1 v3) - (nI 1)) fun v4 =>
  zloop (lX7_turnAround_17 x0) zfu (v4, (nI 0), h)) else none
theorem kX7_turnAround {x0 : Nat} {h : ZH} {x : ZH} (e : fX7_turnAround x0 h = some x) : x0 < zn h ∧ zK h x0 = 7 := by
  unfold fX7_turnAround at e
  exact zguard e
theorem mX7_turnAround (b0 : Nat) (x0 : Nat) (h : ZH) : ZM zv b0 YX7_turnAround 2 [.ref (b0 + x0)] h (fX7_turnAround x0 h) := by
  unfold fX7_turnAround
  refine ZM.of (by decide) rfl (Nat.le_of_ble_eq_true rfl) (fun _ => trivial) ?_
  refine z_sub (lv2 := [(0, .ref (b0 + x0))]) [0] rfl ?_
  refine z_guard (fun _ => ?_)
  refine z_aload_n 1 0 dX7_turnAround_0 rfl rfl ?_
  refine z_getI 4 zC7 (Nat.le_of_ble_eq_true rfl) rfl w_65 dX7_turnAround_1 rfl (fun v1 _ => ?_)
  refine z_aload_n 5 0 dX7_turnAround_4 rfl rfl ?_
  refine z_getR 8 zC7 (Nat.le_of_ble_eq_true rfl) rfl w_64 dX7_turnAround_5 rfl (fun v2 _ => ?_)
  refine z_alen 9 dX7_turnAround_8 rfl (fun v3 _ => ?_)
  refine z_mmin 12 w_743 wt_Lib_Math_min_name wi_RJ9 wc_Lib_Math_min_name (Nat.le_of_ble_eq_true rfl) (Nat.le_of_ble_eq_true rfl) dX7_turnAround_9 rfl ?_
  refine z_iconst (nI 1) 13 zki_1 dX7_turnAround_12 rfl ?_
  refine z_isub 14 dX7_turnAround_13 rfl ?_
  refine z_letI (fun v4 _ => ?_)
  refine z_istore_n (lv2 := [(1, .int v4), (0, .ref (b0 + x0))]) 15 dX7_turnAround_14 rfl (Nat.le_of_ble_eq_true rfl) rfl ?_
  refine z_iconst (nI 0) 16 zki_0 dX7_turnAround_15 rfl ?_
  refine z_istore_n (lv2 := [(2, .int (nI 0)), (1, .int v4), (0, .ref (b0 + x0))]) 17 dX7_turnAround_16 rfl (Nat.le_of_ble_eq_true rfl) rfl ?_
  exact z_sub [2, 1, 0] rfl (BX7_turnAround_17 b0 x0 zfu v4 (nI 0) h)
-- X6_spellPath
def bX6_spellPath_63 (x2 : Nat) (h : ZH) : Option (ZH) :=
  (fX7_turnAround x2 h).bind fun h1 =>
  some h1
theorem BX6_spellPath_63 (b0 : Nat) (x2 : Nat) (h : ZH) : Zr zv b0 YX6_spellPath 3 63 [(2, .ref (b0 + x2))] [] h (bX6_spellPath_63 x2 h) := by
  unfold bX6_spellPath_63
  refine z_aload_n 64 0 dX6_spellPath_63 rfl rfl ?_
  refine z_callVv 67 (mX7_turnAround b0 x2 h) zyX7_turnAround rfl w_739 (ci := 7) rfl (Nat.le_of_ble_eq_true rfl) (fun _ e9 => kX7_turnAround e9) wm_yX7_turnAround ws_yX7_turnAround (Nat.le_of_ble_eq_true rfl) rfl (Nat.le_of_ble_eq_true rfl) dX6_spellPath_64 rfl (fun h1 => ?_)
  exact z_return dX6_spellPath_67 rfl
def kX6_spellPath_9 (x0 : Nat) (x2 : Nat) (self9 : Int32 × Int32 × ZH → Option (ZH)) (x3 : Int32) (x4 : Int32) (h : ZH) : Option (ZH) :=
  if (nI 256) ≤ x4 then (bX6_spellPath_63 x2 h) else
  (if x3 ≤ 0 then (bX6_spellPath_63 x2 h) else
  ((gI h 6 x0 5).bind fun v3 =>
  if v3 ≤ x3 then (bX6_spellPath_63 x2 h) else
  (if (nI 255) ≤ x3 then (bX6_spellPath_63 x2 h) else
  ((gR h 6 x0 3).bind fun v6 =>
  (lI h 14 v6 x3).bind fun v7 =>
  if (nI 4) = 0 then none else
  (fX7_addLetter x2 (jrem v7 (nI 4)) h).bind fun h8 =>
  (gR h8 6 x0 3).bind fun v9 =>
  (lI h8 14 v9 x3).bind fun v10 =>
  if (nI 4) = 0 then none else
  zl (v10 / (nI 4)) fun v11 =>
  self9 (v11, (x4 + (nI 1)), h8)))))
def lX6_spellPath_9 (x0 : Nat) (x2 : Nat) : (Int32 × Int32 × ZH → Option (ZH)) → Int32 × Int32 × ZH → Option (ZH) := fun self s => kX6_spellPath_9 x0 x2 self s.1 s.2.1 s.2.2
theorem KX6_spellPath_9 (b0 : Nat) (x0 : Nat) (x2 : Nat) (self9 : Int32 × Int32 × ZH → Option (ZH)) (hself9 : ∀ (y3 : Int32) (y4 : Int32) (hh : ZH), Zr zv b0 YX6_spellPath 3 9 [(0, .ref (b0 + x0)), (2, .ref (b0 + x2)), (3, .int y3), (4, .int y4)] [] hh (self9 (y3, y4, hh))) (x3 : Int32) (x4 : Int32) (h : ZH) : Zr zv b0 YX6_spellPath 3 9 [(0, .ref (b0 + x0)), (2, .ref (b0 + x2)), (3, .int x3), (4, .int x4)] [] h (kX6_spellPath_9 x0 x2 self9 x3 x4 h) := by
  unfold kX6_spellPath_9
  refine z_iload 11 3 dX6_spellPath_9 rfl rfl ?_
  refine z_sipush (nI 256) 14 zks_256 dX6_spellPath_11 rfl ?_
  refine z_icmp_ge 63 17 dX6_spellPath_14 (by decide) rfl (fun c1 => ?_) (fun c1 => ?_)
  · exact z_sub [1] rfl (BX6_spellPath_63 b0 x2 h )
  · refine z_iload_n 18 2 dX6_spellPath_17 rfl rfl ?_
    refine z_if_le 63 21 dX6_spellPath_18 (by decide) rfl (fun c2 => ?_) (fun c2 => ?_)
    · exact z_sub [1] rfl (BX6_spellPath_63 b0 x2 h )
    · refine z_iload_n 22 2 dX6_spellPath_21 rfl rfl ?_
      refine z_aload_n 23 0 dX6_spellPath_22 rfl rfl ?_
      refine z_getI 26 zC6 (Nat.le_of_ble_eq_true rfl) rfl w_86 dX6_spellPath_23 rfl (fun v3 _ => ?_)
      refine z_icmp_ge 63 29 dX6_spellPath_26 (by decide) rfl (fun c4 => ?_) (fun c4 => ?_)
      · exact z_sub [1] rfl (BX6_spellPath_63 b0 x2 h )
      · refine z_iload_n 30 2 dX6_spellPath_29 rfl rfl ?_
        refine z_sipush (nI 255) 33 zks_255 dX6_spellPath_30 rfl ?_
        refine z_icmp_ge 63 36 dX6_spellPath_33 (by decide) rfl (fun c5 => ?_) (fun c5 => ?_)
        · exact z_sub [1] rfl (BX6_spellPath_63 b0 x2 h )
        · refine z_aload_n 37 1 dX6_spellPath_36 rfl rfl ?_
          refine z_aload_n 38 0 dX6_spellPath_37 rfl rfl ?_
          refine z_getR 41 zC6 (Nat.le_of_ble_eq_true rfl) rfl w_84 dX6_spellPath_38 rfl (fun v6 _ => ?_)
          refine z_iload_n 42 2 dX6_spellPath_41 rfl rfl ?_
          refine z_iaload 43 dX6_spellPath_42 rfl (fun v7 _ => ?_)
          refine z_iconst (nI 4) 44 zki_4 dX6_spellPath_43 rfl ?_
          refine z_irem 45 dX6_spellPath_44 rfl (fun _ => ?_)
          refine z_callVv 48 (mX7_addLetter b0 x2 (jrem v7 (nI 4)) h) zyX7_addLetter rfl w_579 (ci := 7) rfl (Nat.le_of_ble_eq_true rfl) (fun _ e9 => kX7_addLetter e9) wm_yX7_addLetter ws_yX7_addLetter (Nat.le_of_ble_eq_true rfl) rfl (Nat.le_of_ble_eq_true rfl) dX6_spellPath_45 rfl (fun h8 => ?_)
          refine z_aload_n 49 0 dX6_spellPath_48 rfl rfl ?_
          refine z_getR 52 zC6 (Nat.le_of_ble_eq_true rfl) rfl w_84 dX6_spellPath_49 rfl (fun v9 _ => ?_)
          refine z_iload_n 53 2 dX6_spellPath_52 rfl rfl ?_
          refine z_iaload 54 dX6_spellPath_53 rfl (fun v10 _ => ?_)
          refine z_iconst (nI 4) 55 zki_4 dX6_spellPath_54 rfl ?_
          refine z_idiv 56 dX6_spellPath_55 rfl (fun _ => ?_)
          refine z_letI (fun v11 _ => ?_)
          refine z_istore_n (lv2 := [(3, .int v11), (0, .ref (b0 + x0)), (2, .ref (b0 + x2)), (4, .int x4)]) 57 dX6_spellPath_56 rfl (Nat.le_of_ble_eq_true rfl) rfl ?_
          refine z_iinc (lv2 := [(4, .int (x4 + (nI 1))), (3, .int v11), (0, .ref (b0 + x0)), (2, .ref (b0 + x2))]) (nI 1) 60 3 dX6_spellPath_57 rfl rfl zki_1 (Nat.le_of_ble_eq_true rfl) rfl ?_
          refine z_goto 9 dX6_spellPath_60 (by decide) ?_
          exact z_sub [2, 3, 1, 0] rfl (hself9 v11 (x4 + (nI 1)) h8)
theorem BX6_spellPath_9 (b0 : Nat) (x0 : Nat) (x2 : Nat) (n : Nat) (x3 : Int32) (x4 : Int32) (h : ZH) : Zr zv b0 YX6_spellPath 3 9 [(0, .ref (b0 + x0)), (2, .ref (b0 + x2)), (3, .int x3), (4, .int x4)] [] h (zloop (lX6_spellPath_9 x0 x2) n (x3, x4, h)) :=
  zloop_Zr (fun s => [(0, .ref (b0 + x0)), (2, .ref (b0 + x2)), (3, .int s.1), (4, .int s.2.1)]) (fun _ => []) (fun s => s.2.2) (lX6_spellPath_9 x0 x2) (fun self hs s => KX6_spellPath_9 b0 x0 x2 self (fun y3 y4 hh => hs (y3, y4, hh)) s.1 s.2.1 s.2.2) n (x3, x4, h)
def fX6_spellPath (x0 : Nat) (x1 : Int32) (x2 : Nat) (h : ZH) : Option (ZH) :=
  if x0 < zn h ∧ zK h x0 = 6 then ((fX7_clear x2 h).bind fun h1 =>
  zloop (lX6_spellPath_9 x0 x2) zfu (x1, (nI 0), h1)) else none
theorem kX6_spellPath {x0 : Nat} {x1 : Int32} {x2 : Nat} {h : ZH} {x : ZH} (e : fX6_spellPath x0 x1 x2 h = some x) : x0 < zn h ∧ zK h x0 = 6 := by
  unfold fX6_spellPath at e
  exact zguard e
theorem mX6_spellPath (b0 : Nat) (x0 : Nat) (x1 : Int32) (x2 : Nat) (h : ZH) : ZM zv b0 YX6_spellPath 3 [.ref (b0 + x0), .int x1, .ref (b0 + x2)] h (fX6_spellPath x0 x1 x2 h) := by
  unfold fX6_spellPath
  refine ZM.of (by decide) rfl (Nat.le_of_ble_eq_true rfl) (fun _ => trivial) ?_
  refine z_sub (lv2 := [(0, .ref (b0 + x0)), (1, .int x1), (2, .ref (b0 + x2))]) [0, 1, 2] rfl ?_
  refine z_guard (fun _ => ?_)
  refine z_aload_n 1 2 dX6_spellPath_0 rfl rfl ?_
  refine z_callVv 4 (mX7_clear b0 x2 h) zyX7_clear rfl w_578 (ci := 7) rfl (Nat.le_of_ble_eq_true rfl) (fun _ e9 => kX7_clear e9) wm_yX7_clear ws_yX7_clear (Nat.le_of_ble_eq_true rfl) rfl (Nat.le_of_ble_eq_true rfl) dX6_spellPath_1 rfl (fun h1 => ?_)
  refine z_iload_n 5 1 dX6_spellPath_4 rfl rfl ?_
  refine z_istore_n (lv2 := [(3, .int x1), (0, .ref (b0 + x0)), (1, .int x1), (2, .ref (b0 + x2))]) 6 dX6_spellPath_5 rfl (Nat.le_of_ble_eq_true rfl) rfl ?_
  refine z_iconst (nI 0) 7 zki_0 dX6_spellPath_6 rfl ?_
  refine z_istore (lv2 := [(4, .int (nI 0)), (3, .int x1), (0, .ref (b0 + x0)), (1, .int x1), (2, .ref (b0 + x2))]) 9 dX6_spellPath_7 rfl (Nat.le_of_ble_eq_true rfl) rfl ?_
  exact z_sub [2, 4, 1, 0] rfl (BX6_spellPath_9 b0 x0 x2 zfu x1 (nI 0) h1)
-- X0_spellReset
def fX0_spellReset (x0 : Nat) (x1 : Nat) (h : ZH) : Option (ZH) :=
  if x0 < zn h ∧ zK h x0 = 0 then ((gR h 0 x0 9).bind fun v1 =>
  (gI h 0 x0 10).bind fun v2 =>
  (fX6_spellPath v1 v2 x1 h).bind fun h3 =>
  some h3) else none
theorem kX0_spellReset {x0 : Nat} {x1 : Nat} {h : ZH} {x : ZH} (e : fX0_spellReset x0 x1 h = some x) : x0 < zn h ∧ zK h x0 = 0 := by
  unfold fX0_spellReset at e
  exact zguard e
theorem mX0_spellReset (b0 : Nat) (x0 : Nat) (x1 : Nat) (h : ZH) : ZM zv b0 YX0_spellReset 4 [.ref (b0 + x0), .ref (b0 + x1)] h (fX0_spellReset x0 x1 h) := by
  unfold fX0_spellReset
  refine ZM.of (by decide) rfl (Nat.le_of_ble_eq_true rfl) (fun _ => trivial) ?_
  refine z_sub (lv2 := [(0, .ref (b0 + x0)), (1, .ref (b0 + x1))]) [0, 1] rfl ?_
  refine z_guard (fun _ => ?_)
  refine z_aload_n 1 0 dX0_spellReset_0 rfl rfl ?_
  refine z_getR 4 zC0 (Nat.le_of_ble_eq_true rfl) rfl w_152 dX0_spellReset_1 rfl (fun v1 _ => ?_)
  refine z_aload_n 5 0 dX0_spellReset_4 rfl rfl ?_
  refine z_getI 8 zC0 (Nat.le_of_ble_eq_true rfl) rfl w_153 dX0_spellReset_5 rfl (fun v2 _ => ?_)
  refine z_aload_n 9 1 dX0_spellReset_8 rfl rfl ?_
  refine z_callVv 12 (mX6_spellPath b0 v1 v2 x1 h) zyX6_spellPath rfl w_735 (ci := 6) rfl (Nat.le_of_ble_eq_true rfl) (fun _ e9 => kX6_spellPath e9) wm_yX6_spellPath ws_yX6_spellPath (Nat.le_of_ble_eq_true rfl) rfl (Nat.le_of_ble_eq_true rfl) dX0_spellReset_9 rfl (fun h3 => ?_)
  exact z_return dX0_spellReset_12 rfl
-- X0_pairsAfterPair
def bX0_pairsAfterPair_69 (self5 : Int64 × Int32 × ZH → Option (Int64 × ZH)) (x0 : Nat) (x1 : Int32) (x2 : Int32) (x3 : Int64) (x5 : Int32) (h : ZH) : Option (Int64 × ZH) :=
  self5 (x3, (x5 + (nI 1)), h)
theorem BX0_pairsAfterPair_69 (b0 : Nat) (self5 : Int64 × Int32 × ZH → Option (Int64 × ZH)) (x0 : Nat) (x1 : Int32) (x2 : Int32) (x3 : Int64) (x5 : Int32) (h : ZH) (hself5 : ∀ (y3 : Int64) (y5 : Int32) (hh : ZH), Zr zj b0 YX0_pairsAfterPair 4 5 [(0, .ref (b0 + x0)), (1, .int x1), (2, .int x2), (3, .long y3), (5, .int y5)] [] hh (self5 (y3, y5, hh))) : Zr zj b0 YX0_pairsAfterPair 4 69 [(0, .ref (b0 + x0)), (1, .int x1), (2, .int x2), (3, .long x3), (5, .int x5)] [] h (bX0_pairsAfterPair_69 self5 x0 x1 x2 x3 x5 h) := by
  unfold bX0_pairsAfterPair_69
  refine z_iinc (lv2 := [(5, .int (x5 + (nI 1))), (0, .ref (b0 + x0)), (1, .int x1), (2, .int x2), (3, .long x3)]) (nI 1) 72 4 dX0_pairsAfterPair_69 rfl rfl zki_1 (Nat.le_of_ble_eq_true rfl) rfl ?_
  refine z_goto 5 dX0_pairsAfterPair_72 (by decide) ?_
  exact z_sub [1, 2, 3, 4, 0] rfl (hself5 x3 (x5 + (nI 1)) h)
def kX0_pairsAfterPair_5 (x0 : Nat) (x1 : Int32) (x2 : Int32) (self5 : Int64 × Int32 × ZH → Option (Int64 × ZH)) (x3 : Int64) (x5 : Int32) (h : ZH) : Option (Int64 × ZH) :=
  if (nI 4) ≤ x5 then (some (x3, h)) else
  ((fX0_targetInMerged x0 x1 x5 h).bind fun q2 =>
  (fX0_targetInMerged x0 x2 x5 q2.2).bind fun q3 =>
  if q2.1 < 0 then (bX0_pairsAfterPair_69 self5 x0 x1 x2 x3 x5 q3.2) else
  (if q3.1 < 0 then (bX0_pairsAfterPair_69 self5 x0 x1 x2 x3 x5 q3.2) else
  (if q2.1 = q3.1 then (bX0_pairsAfterPair_69 self5 x0 x1 x2 x3 x5 q3.2) else
  (zl (x3 ||| (jlshl (lN 1) (((nI 8) * (jmmax q2.1 q3.1)) + (jmmin q2.1 q3.1)))) fun v7 =>
  bX0_pairsAfterPair_69 self5 x0 x1 x2 v7 x5 q3.2))))
def lX0_pairsAfterPair_5 (x0 : Nat) (x1 : Int32) (x2 : Int32) : (Int64 × Int32 × ZH → Option (Int64 × ZH)) → Int64 × Int32 × ZH → Option (Int64 × ZH) := fun self s => kX0_pairsAfterPair_5 x0 x1 x2 self s.1 s.2.1 s.2.2
theorem KX0_pairsAfterPair_5 (b0 : Nat) (x0 : Nat) (x1 : Int32) (x2 : Int32) (self5 : Int64 × Int32 × ZH → Option (Int64 × ZH)) (hself5 : ∀ (y3 : Int64) (y5 : Int32) (hh : ZH), Zr zj b0 YX0_pairsAfterPair 4 5 [(0, .ref (b0 + x0)), (1, .int x1), (2, .int x2), (3, .long y3), (5, .int y5)] [] hh (self5 (y3, y5, hh))) (x3 : Int64) (x5 : Int32) (h : ZH) : Zr zj b0 YX0_pairsAfterPair 4 5 [(0, .ref (b0 + x0)), (1, .int x1), (2, .int x2), (3, .long x3), (5, .int x5)] [] h (kX0_pairsAfterPair_5 x0 x1 x2 self5 x3 x5 h) := by
  unfold kX0_pairsAfterPair_5
  refine z_iload 7 4 dX0_pairsAfterPair_5 rfl rfl ?_
  refine z_iconst (nI 4) 8 zki_4 dX0_pairsAfterPair_7 rfl ?_
  refine z_icmp_ge 75 11 dX0_pairsAfterPair_8 (by decide) rfl (fun c1 => ?_) (fun c1 => ?_)
  · refine z_lload_n 76 3 dX0_pairsAfterPair_75 rfl rfl ?_
    exact z_lreturn dX0_pairsAfterPair_76 rfl
  · refine z_aload_n 12 0 dX0_pairsAfterPair_11 rfl rfl ?_
    refine z_iload_n 13 1 dX0_pairsAfterPair_12 rfl rfl ?_
    refine z_iload 15 4 dX0_pairsAfterPair_13 rfl rfl ?_
    refine z_callVi 18 (mX0_targetInMerged b0 x0 x1 x5 h) zyX0_targetInMerged rfl w_714 (ci := 0) rfl (Nat.le_of_ble_eq_true rfl) (fun _ e9 => kX0_targetInMerged e9) wm_yX0_targetInMerged ws_yX0_targetInMerged (Nat.le_of_ble_eq_true rfl) rfl (Nat.le_of_ble_eq_true rfl) dX0_pairsAfterPair_15 rfl (fun q2 => ?_)
    refine z_istore (lv2 := [(6, .int q2.1), (0, .ref (b0 + x0)), (1, .int x1), (2, .int x2), (3, .long x3), (5, .int x5)]) 20 dX0_pairsAfterPair_18 rfl (Nat.le_of_ble_eq_true rfl) rfl ?_
    refine z_aload_n 21 1 dX0_pairsAfterPair_20 rfl rfl ?_
    refine z_iload_n 22 3 dX0_pairsAfterPair_21 rfl rfl ?_
    refine z_iload 24 5 dX0_pairsAfterPair_22 rfl rfl ?_
    refine z_callVi 27 (mX0_targetInMerged b0 x0 x2 x5 q2.2) zyX0_targetInMerged rfl w_714 (ci := 0) rfl (Nat.le_of_ble_eq_true rfl) (fun _ e9 => kX0_targetInMerged e9) wm_yX0_targetInMerged ws_yX0_targetInMerged (Nat.le_of_ble_eq_true rfl) rfl (Nat.le_of_ble_eq_true rfl) dX0_pairsAfterPair_24 rfl (fun q3 => ?_)
    refine z_istore (lv2 := [(7, .int q3.1), (6, .int q2.1), (0, .ref (b0 + x0)), (1, .int x1), (2, .int x2), (3, .long x3), (5, .int x5)]) 29 dX0_pairsAfterPair_27 rfl (Nat.le_of_ble_eq_true rfl) rfl ?_
    refine z_iload 31 1 dX0_pairsAfterPair_29 rfl rfl ?_
    refine z_if_lt 69 34 dX0_pairsAfterPair_31 (by decide) rfl (fun c4 => ?_) (fun c4 => ?_)
    · exact z_sub [2, 3, 4, 5, 6] rfl (BX0_pairsAfterPair_69 b0 self5 x0 x1 x2 x3 x5 q3.2 hself5)
    · refine z_iload 36 0 dX0_pairsAfterPair_34 rfl rfl ?_
      refine z_if_lt 69 39 dX0_pairsAfterPair_36 (by decide) rfl (fun c5 => ?_) (fun c5 => ?_)
      · exact z_sub [2, 3, 4, 5, 6] rfl (BX0_pairsAfterPair_69 b0 self5 x0 x1 x2 x3 x5 q3.2 hself5)
      · refine z_iload 41 1 dX0_pairsAfterPair_39 rfl rfl ?_
        refine z_iload 43 0 dX0_pairsAfterPair_41 rfl rfl ?_
        refine z_icmp_eq 69 46 dX0_pairsAfterPair_43 (by decide) rfl (fun c6 => ?_) (fun c6 => ?_)
        · exact z_sub [2, 3, 4, 5, 6] rfl (BX0_pairsAfterPair_69 b0 self5 x0 x1 x2 x3 x5 q3.2 hself5)
        · refine z_lload_n 47 5 dX0_pairsAfterPair_46 rfl rfl ?_
          refine z_lconst (lN 1) 48 rfl dX0_pairsAfterPair_47 rfl ?_
          refine z_bipush (nI 8) 50 zkb_8 dX0_pairsAfterPair_48 rfl ?_
          refine z_iload 52 1 dX0_pairsAfterPair_50 rfl rfl ?_
          refine z_iload 54 0 dX0_pairsAfterPair_52 rfl rfl ?_
          refine z_mmax 57 w_760 wt_Lib_Math_max_name wi_RJ9 wc_Lib_Math_max_name (Nat.le_of_ble_eq_true rfl) (Nat.le_of_ble_eq_true rfl) dX0_pairsAfterPair_54 rfl ?_
          refine z_imul 58 dX0_pairsAfterPair_57 rfl ?_
          refine z_iload 60 1 dX0_pairsAfterPair_58 rfl rfl ?_
          refine z_iload 62 0 dX0_pairsAfterPair_60 rfl rfl ?_
          refine z_mmin 65 w_670 wt_Lib_Math_min_name wi_RJ9 wc_Lib_Math_min_name (Nat.le_of_ble_eq_true rfl) (Nat.le_of_ble_eq_true rfl) dX0_pairsAfterPair_62 rfl ?_
          refine z_iadd 66 dX0_pairsAfterPair_65 rfl ?_
          refine z_lshl 67 dX0_pairsAfterPair_66 rfl ?_
          refine z_lor 68 dX0_pairsAfterPair_67 rfl ?_
          refine z_letJ (fun v7 _ => ?_)
          refine z_lstore_n (lv2 := [(3, .long v7), (7, .int q3.1), (6, .int q2.1), (0, .ref (b0 + x0)), (1, .int x1), (2, .int x2), (5, .int x5)]) 69 dX0_pairsAfterPair_68 rfl (Nat.le_of_ble_eq_true rfl) rfl ?_
          exact z_sub [3, 4, 5, 0, 6] rfl (BX0_pairsAfterPair_69 b0 self5 x0 x1 x2 v7 x5 q3.2 hself5)
theorem BX0_pairsAfterPair_5 (b0 : Nat) (x0 : Nat) (x1 : Int32) (x2 : Int32) (n : Nat) (x3 : Int64) (x5 : Int32) (h : ZH) : Zr zj b0 YX0_pairsAfterPair 4 5 [(0, .ref (b0 + x0)), (1, .int x1), (2, .int x2), (3, .long x3), (5, .int x5)] [] h (zloop (lX0_pairsAfterPair_5 x0 x1 x2) n (x3, x5, h)) :=
  zloop_Zr (fun s => [(0, .ref (b0 + x0)), (1, .int x1), (2, .int x2), (3, .long s.1), (5, .int s.2.1)]) (fun _ => []) (fun s => s.2.2) (lX0_pairsAfterPair_5 x0 x1 x2) (fun self hs s => KX0_pairsAfterPair_5 b0 x0 x1 x2 self (fun y3 y5 hh => hs (y3, y5, hh)) s.1 s.2.1 s.2.2) n (x3, x5, h)
def fX0_pairsAfterPair (x0 : Nat) (x1 : Int32) (x2 : Int32) (h : ZH) : Option (Int64 × ZH) :=
  if x0 < zn h ∧ zK h x0 = 0 then (zloop (lX0_pairsAfterPair_5 x0 x1 x2) zfu ((lN 0), (nI 0), h)) else none
theorem kX0_pairsAfterPair {x0 : Nat} {x1 : Int32} {x2 : Int32} {h : ZH} {x : Int64 × ZH} (e : fX0_pairsAfterPair x0 x1 x2 h = some x) : x0 < zn h ∧ zK h x0 = 0 := by
  unfold fX0_pairsAfterPair at e
  exact zguard e
theorem mX0_pairsAfterPair (b0 : Nat) (x0 : Nat) (x1 : Int32) (x2 : Int32) (h : ZH) : ZM zj b0 YX0_pairsAfterPair 4 [.ref (b0 + x0), .int x1, .int x2] h (fX0_pairsAfterPair x0 x1 x2 h) := by
  unfold fX0_pairsAfterPair
  refine ZM.of (by decide) rfl (Nat.le_of_ble_eq_true rfl) (fun _ => trivial) ?_
  refine z_sub (lv2 := [(0, .ref (b0 + x0)), (1, .int x1), (2, .int x2)]) [0, 1, 2] rfl ?_
  refine z_guard (fun _ => ?_)
  refine z_lconst (lN 0) 1 rfl dX0_pairsAfterPair_0 rfl ?_
  refine z_lstore_n (lv2 := [(3, .long (lN 0)), (0, .ref (b0 + x0)), (1, .int x1), (2, .int x2)]) 2 dX0_pairsAfterPair_1 rfl (Nat.le_of_ble_eq_true rfl) rfl ?_
  refine z_iconst (nI 0) 3 zki_0 dX0_pairsAfterPair_2 rfl ?_
  refine z_istore (lv2 := [(5, .int (nI 0)), (3, .long (lN 0)), (0, .ref (b0 + x0)), (1, .int x1), (2, .int x2)]) 5 dX0_pairsAfterPair_3 rfl (Nat.le_of_ble_eq_true rfl) rfl ?_
  exact z_sub [2, 3, 4, 1, 0] rfl (BX0_pairsAfterPair_5 b0 x0 x1 x2 zfu (lN 0) (nI 0) h)
-- X0_pairsAfter
def bX0_pairsAfter_50 (self5 : Int64 × Int32 × ZH → Option (Int64 × ZH)) (self15 : Int64 × Int32 × ZH → Option (Int64 × ZH)) (x0 : Nat) (x1 : Int64) (x3 : Int64) (x5 : Int32) (x6 : Int32) (h : ZH) : Option (Int64 × ZH) :=
  self15 (x3, (x6 + (nI 1)), h)
theorem BX0_pairsAfter_50 (b0 : Nat) (self5 : Int64 × Int32 × ZH → Option (Int64 × ZH)) (self15 : Int64 × Int32 × ZH → Option (Int64 × ZH)) (x0 : Nat) (x1 : Int64) (x3 : Int64) (x5 : Int32) (x6 : Int32) (h : ZH) (hself5 : ∀ (y3 : Int64) (y5 : Int32) (hh : ZH), Zr zj b0 YX0_pairsAfter 5 5 [(0, .ref (b0 + x0)), (1, .long x1), (3, .long y3), (5, .int y5)] [] hh (self5 (y3, y5, hh))) (hself15 : ∀ (y3 : Int64) (y6 : Int32) (hh : ZH), Zr zj b0 YX0_pairsAfter 5 15 [(0, .ref (b0 + x0)), (1, .long x1), (5, .int x5), (3, .long y3), (6, .int y6)] [] hh (self15 (y3, y6, hh))) : Zr zj b0 YX0_pairsAfter 5 50 [(0, .ref (b0 + x0)), (1, .long x1), (3, .long x3), (5, .int x5), (6, .int x6)] [] h (bX0_pairsAfter_50 self5 self15 x0 x1 x3 x5 x6 h) := by
  unfold bX0_pairsAfter_50
  refine z_iinc (lv2 := [(6, .int (x6 + (nI 1))), (0, .ref (b0 + x0)), (1, .long x1), (3, .long x3), (5, .int x5)]) (nI 1) 53 4 dX0_pairsAfter_50 rfl rfl zki_1 (Nat.le_of_ble_eq_true rfl) rfl ?_
  refine z_goto 15 dX0_pairsAfter_53 (by decide) ?_
  exact z_sub [1, 2, 4, 3, 0] rfl (hself15 x3 (x6 + (nI 1)) h)
def kX0_pairsAfter_15 (self5 : Int64 × Int32 × ZH → Option (Int64 × ZH)) (x0 : Nat) (x1 : Int64) (x5 : Int32) (self15 : Int64 × Int32 × ZH → Option (Int64 × ZH)) (x3 : Int64) (x6 : Int32) (h : ZH) : Option (Int64 × ZH) :=
  if x5 ≤ x6 then (self5 (x3, (x5 + (nI 1)), h)) else
  (if (lg_cmp ((jlshr x1 (((nI 8) * x5) + x6)) &&& (lN 1)) (lN 0)) = 0 then (bX0_pairsAfter_50 self5 self15 x0 x1 x3 x5 x6 h) else
  ((fX0_pairsAfterPair x0 x5 x6 h).bind fun q3 =>
  zl (x3 ||| q3.1) fun v4 =>
  bX0_pairsAfter_50 self5 self15 x0 x1 v4 x5 x6 q3.2))
def lX0_pairsAfter_15 (self5 : Int64 × Int32 × ZH → Option (Int64 × ZH)) (x0 : Nat) (x1 : Int64) (x5 : Int32) : (Int64 × Int32 × ZH → Option (Int64 × ZH)) → Int64 × Int32 × ZH → Option (Int64 × ZH) := fun self s => kX0_pairsAfter_15 self5 x0 x1 x5 self s.1 s.2.1 s.2.2
theorem KX0_pairsAfter_15 (b0 : Nat) (self5 : Int64 × Int32 × ZH → Option (Int64 × ZH)) (x0 : Nat) (x1 : Int64) (x5 : Int32) (hself5 : ∀ (y3 : Int64) (y5 : Int32) (hh : ZH), Zr zj b0 YX0_pairsAfter 5 5 [(0, .ref (b0 + x0)), (1, .long x1), (3, .long y3), (5, .int y5)] [] hh (self5 (y3, y5, hh))) (self15 : Int64 × Int32 × ZH → Option (Int64 × ZH)) (hself15 : ∀ (y3 : Int64) (y6 : Int32) (hh : ZH), Zr zj b0 YX0_pairsAfter 5 15 [(0, .ref (b0 + x0)), (1, .long x1), (5, .int x5), (3, .long y3), (6, .int y6)] [] hh (self15 (y3, y6, hh))) (x3 : Int64) (x6 : Int32) (h : ZH) : Zr zj b0 YX0_pairsAfter 5 15 [(0, .ref (b0 + x0)), (1, .long x1), (5, .int x5), (3, .long x3), (6, .int x6)] [] h (kX0_pairsAfter_15 self5 x0 x1 x5 self15 x3 x6 h) := by
  unfold kX0_pairsAfter_15
  refine z_iload 17 4 dX0_pairsAfter_15 rfl rfl ?_
  refine z_iload 19 2 dX0_pairsAfter_17 rfl rfl ?_
  refine z_icmp_ge 56 22 dX0_pairsAfter_19 (by decide) rfl (fun c1 => ?_) (fun c1 => ?_)
  · refine z_iinc (lv2 := [(5, .int (x5 + (nI 1))), (0, .ref (b0 + x0)), (1, .long x1), (3, .long x3), (6, .int x6)]) (nI 1) 59 2 dX0_pairsAfter_56 rfl rfl zki_1 (Nat.le_of_ble_eq_true rfl) rfl ?_
    refine z_goto 5 dX0_pairsAfter_59 (by decide) ?_
    exact z_sub [1, 2, 3, 0] rfl (hself5 x3 (x5 + (nI 1)) h)
  · refine z_lload_n 23 1 dX0_pairsAfter_22 rfl rfl ?_
    refine z_bipush (nI 8) 25 zkb_8 dX0_pairsAfter_23 rfl ?_
    refine z_iload 27 2 dX0_pairsAfter_25 rfl rfl ?_
    refine z_imul 28 dX0_pairsAfter_27 rfl ?_
    refine z_iload 30 4 dX0_pairsAfter_28 rfl rfl ?_
    refine z_iadd 31 dX0_pairsAfter_30 rfl ?_
    refine z_lshr 32 dX0_pairsAfter_31 rfl ?_
    refine z_lconst (lN 1) 33 rfl dX0_pairsAfter_32 rfl ?_
    refine z_land 34 dX0_pairsAfter_33 rfl ?_
    refine z_lconst (lN 0) 35 rfl dX0_pairsAfter_34 rfl ?_
    refine z_lcmp 36 dX0_pairsAfter_35 rfl ?_
    refine z_if_eq 50 39 dX0_pairsAfter_36 (by decide) rfl (fun c2 => ?_) (fun c2 => ?_)
    · exact z_sub [0, 1, 3, 2, 4] rfl (BX0_pairsAfter_50 b0 self5 self15 x0 x1 x3 x5 x6 h hself5 hself15)
    · refine z_lload_n 40 3 dX0_pairsAfter_39 rfl rfl ?_
      refine z_aload_n 41 0 dX0_pairsAfter_40 rfl rfl ?_
      refine z_iload 43 2 dX0_pairsAfter_41 rfl rfl ?_
      refine z_iload 45 4 dX0_pairsAfter_43 rfl rfl ?_
      refine z_callVj 48 (mX0_pairsAfterPair b0 x0 x5 x6 h) zyX0_pairsAfterPair rfl w_756 (ci := 0) rfl (Nat.le_of_ble_eq_true rfl) (fun _ e9 => kX0_pairsAfterPair e9) wm_yX0_pairsAfterPair ws_yX0_pairsAfterPair (Nat.le_of_ble_eq_true rfl) rfl (Nat.le_of_ble_eq_true rfl) dX0_pairsAfter_45 rfl (fun q3 => ?_)
      refine z_lor 49 dX0_pairsAfter_48 rfl ?_
      refine z_letJ (fun v4 _ => ?_)
      refine z_lstore_n (lv2 := [(3, .long v4), (0, .ref (b0 + x0)), (1, .long x1), (5, .int x5), (6, .int x6)]) 50 dX0_pairsAfter_49 rfl (Nat.le_of_ble_eq_true rfl) rfl ?_
      exact z_sub [1, 2, 0, 3, 4] rfl (BX0_pairsAfter_50 b0 self5 self15 x0 x1 v4 x5 x6 q3.2 hself5 hself15)
theorem BX0_pairsAfter_15 (b0 : Nat) (self5 : Int64 × Int32 × ZH → Option (Int64 × ZH)) (x0 : Nat) (x1 : Int64) (x5 : Int32) (hself5 : ∀ (y3 : Int64) (y5 : Int32) (hh : ZH), Zr zj b0 YX0_pairsAfter 5 5 [(0, .ref (b0 + x0)), (1, .long x1), (3, .long y3), (5, .int y5)] [] hh (self5 (y3, y5, hh))) (n : Nat) (x3 : Int64) (x6 : Int32) (h : ZH) : Zr zj b0 YX0_pairsAfter 5 15 [(0, .ref (b0 + x0)), (1, .long x1), (5, .int x5), (3, .long x3), (6, .int x6)] [] h (zloop (lX0_pairsAfter_15 self5 x0 x1 x5) n (x3, x6, h)) :=
  zloop_Zr (fun s => [(0, .ref (b0 + x0)), (1, .long x1), (5, .int x5), (3, .long s.1), (6, .int s.2.1)]) (fun _ => []) (fun s => s.2.2) (lX0_pairsAfter_15 self5 x0 x1 x5) (fun self hs s => KX0_pairsAfter_15 b0 self5 x0 x1 x5 hself5 self (fun y3 y6 hh => hs (y3, y6, hh)) s.1 s.2.1 s.2.2) n (x3, x6, h)
def kX0_pairsAfter_5 (x0 : Nat) (x1 : Int64) (self5 : Int64 × Int32 × ZH → Option (Int64 × ZH)) (x3 : Int64) (x5 : Int32) (h : ZH) : Option (Int64 × ZH) :=
  if (nI 8) ≤ x5 then (some (x3, h)) else
  (zloop (lX0_pairsAfter_15 self5 x0 x1 x5) zfu (x3, (nI 0), h))
def lX0_pairsAfter_5 (x0 : Nat) (x1 : Int64) : (Int64 × Int32 × ZH → Option (Int64 × ZH)) → Int64 × Int32 × ZH → Option (Int64 × ZH) := fun self s => kX0_pairsAfter_5 x0 x1 self s.1 s.2.1 s.2.2
theorem KX0_pairsAfter_5 (b0 : Nat) (x0 : Nat) (x1 : Int64) (self5 : Int64 × Int32 × ZH → Option (Int64 × ZH)) (hself5 : ∀ (y3 : Int64) (y5 : Int32) (hh : ZH), Zr zj b0 YX0_pairsAfter 5 5 [(0, .ref (b0 + x0)), (1, .long x1), (3, .long y3), (5, .int y5)] [] hh (self5 (y3, y5, hh))) (x3 : Int64) (x5 : Int32) (h : ZH) : Zr zj b0 YX0_pairsAfter 5 5 [(0, .ref (b0 + x0)), (1, .long x1), (3, .long x3), (5, .int x5)] [] h (kX0_pairsAfter_5 x0 x1 self5 x3 x5 h) := by
  unfold kX0_pairsAfter_5
  refine z_iload 7 3 dX0_pairsAfter_5 rfl rfl ?_
  refine z_bipush (nI 8) 9 zkb_8 dX0_pairsAfter_7 rfl ?_
  refine z_icmp_ge 62 12 dX0_pairsAfter_9 (by decide) rfl (fun c1 => ?_) (fun c1 => ?_)
  · refine z_lload_n 63 2 dX0_pairsAfter_62 rfl rfl ?_
    exact z_lreturn dX0_pairsAfter_63 rfl
  · refine z_iconst (nI 0) 13 zki_0 dX0_pairsAfter_12 rfl ?_
    refine z_istore (lv2 := [(6, .int (nI 0)), (0, .ref (b0 + x0)), (1, .long x1), (3, .long x3), (5, .int x5)]) 15 dX0_pairsAfter_13 rfl (Nat.le_of_ble_eq_true rfl) rfl ?_
    exact z_sub [1, 2, 4, 3, 0] rfl (BX0_pairsAfter_15 b0 self5 x0 x1 x5 hself5 zfu x3 (nI 0) h)
theorem BX0_pairsAfter_5 (b0 : Nat) (x0 : Nat) (x1 : Int64) (n : Nat) (x3 : Int64) (x5 : Int32) (h : ZH) : Zr zj b0 YX0_pairsAfter 5 5 [(0, .ref (b0 + x0)), (1, .long x1), (3, .long x3), (5, .int x5)] [] h (zloop (lX0_pairsAfter_5 x0 x1) n (x3, x5, h)) :=
  zloop_Zr (fun s => [(0, .ref (b0 + x0)), (1, .long x1), (3, .long s.1), (5, .int s.2.1)]) (fun _ => []) (fun s => s.2.2) (lX0_pairsAfter_5 x0 x1) (fun self hs s => KX0_pairsAfter_5 b0 x0 x1 self (fun y3 y5 hh => hs (y3, y5, hh)) s.1 s.2.1 s.2.2) n (x3, x5, h)
def fX0_pairsAfter (x0 : Nat) (x1 : Int64) (h : ZH) : Option (Int64 × ZH) :=
  if x0 < zn h ∧ zK h x0 = 0 then (zloop (lX0_pairsAfter_5 x0 x1) zfu ((lN 0), (nI 0), h)) else none
theorem kX0_pairsAfter {x0 : Nat} {x1 : Int64} {h : ZH} {x : Int64 × ZH} (e : fX0_pairsAfter x0 x1 h = some x) : x0 < zn h ∧ zK h x0 = 0 := by
  unfold fX0_pairsAfter at e
  exact zguard e
theorem mX0_pairsAfter (b0 : Nat) (x0 : Nat) (x1 : Int64) (h : ZH) : ZM zj b0 YX0_pairsAfter 5 [.ref (b0 + x0), .long x1] h (fX0_pairsAfter x0 x1 h) := by
  unfold fX0_pairsAfter
  refine ZM.of (by decide) rfl (Nat.le_of_ble_eq_true rfl) (fun _ => trivial) ?_
  refine z_sub (lv2 := [(0, .ref (b0 + x0)), (1, .long x1)]) [0, 1] rfl ?_
  refine z_guard (fun _ => ?_)
  refine z_lconst (lN 0) 1 rfl dX0_pairsAfter_0 rfl ?_
  refine z_lstore_n (lv2 := [(3, .long (lN 0)), (0, .ref (b0 + x0)), (1, .long x1)]) 2 dX0_pairsAfter_1 rfl (Nat.le_of_ble_eq_true rfl) rfl ?_
  refine z_iconst (nI 0) 3 zki_0 dX0_pairsAfter_2 rfl ?_
  refine z_istore (lv2 := [(5, .int (nI 0)), (3, .long (lN 0)), (0, .ref (b0 + x0)), (1, .long x1)]) 5 dX0_pairsAfter_3 rfl (Nat.le_of_ble_eq_true rfl) rfl ?_
  exact z_sub [2, 3, 1, 0] rfl (BX0_pairsAfter_5 b0 x0 x1 zfu (lN 0) (nI 0) h)
-- X0_stepsToSynchronize
def kX0_stepsToSynchronize_51 (x0 : Nat) (x3 : Int32) (self51 : Int64 × Int32 × ZH → Option (Int32 × ZH)) (x1 : Int64) (x4 : Int32) (h : ZH) : Option (Int32 × ZH) :=
  if x3 < x4 then (some ((-1 : Int32), h)) else
  (if (lg_cmp x1 (lN 0)) = 0 then (some (x4, h)) else
  ((fX0_pairsAfter x0 x1 h).bind fun q3 =>
  self51 (q3.1, (x4 + (nI 1)), q3.2)))
def lX0_stepsToSynchronize_51 (x0 : Nat) (x3 : Int32) : (Int64 × Int32 × ZH → Option (Int32 × ZH)) → Int64 × Int32 × ZH → Option (Int32 × ZH) := fun self s => kX0_stepsToSynchronize_51 x0 x3 self s.1 s.2.1 s.2.2
theorem KX0_stepsToSynchronize_51 (b0 : Nat) (x0 : Nat) (x3 : Int32) (self51 : Int64 × Int32 × ZH → Option (Int32 × ZH)) (hself51 : ∀ (y1 : Int64) (y4 : Int32) (hh : ZH), Zr zi b0 YX0_stepsToSynchronize 6 51 [(0, .ref (b0 + x0)), (3, .int x3), (1, .long y1), (4, .int y4)] [] hh (self51 (y1, y4, hh))) (x1 : Int64) (x4 : Int32) (h : ZH) : Zr zi b0 YX0_stepsToSynchronize 6 51 [(0, .ref (b0 + x0)), (3, .int x3), (1, .long x1), (4, .int x4)] [] h (kX0_stepsToSynchronize_51 x0 x3 self51 x1 x4 h) := by
  unfold kX0_stepsToSynchronize_51
  refine z_iload 53 3 dX0_stepsToSynchronize_51 rfl rfl ?_
  refine z_iload_n 54 1 dX0_stepsToSynchronize_53 rfl rfl ?_
  refine z_icmp_gt 78 57 dX0_stepsToSynchronize_54 (by decide) rfl (fun c1 => ?_) (fun c1 => ?_)
  · refine z_iconst (-1 : Int32) 79 zki_m1 dX0_stepsToSynchronize_78 rfl ?_
    exact z_ireturn dX0_stepsToSynchronize_79 rfl
  · refine z_lload_n 58 2 dX0_stepsToSynchronize_57 rfl rfl ?_
    refine z_lconst (lN 0) 59 rfl dX0_stepsToSynchronize_58 rfl ?_
    refine z_lcmp 60 dX0_stepsToSynchronize_59 rfl ?_
    refine z_if_ne 66 63 dX0_stepsToSynchronize_60 (by decide) rfl (fun c2 => ?_) (fun c2 => ?_)
    · refine z_aload_n 67 0 dX0_stepsToSynchronize_66 rfl rfl ?_
      refine z_lload_n 68 2 dX0_stepsToSynchronize_67 rfl rfl ?_
      refine z_callVj 71 (mX0_pairsAfter b0 x0 x1 h) zyX0_pairsAfter rfl w_752 (ci := 0) rfl (Nat.le_of_ble_eq_true rfl) (fun _ e9 => kX0_pairsAfter e9) wm_yX0_pairsAfter ws_yX0_pairsAfter (Nat.le_of_ble_eq_true rfl) rfl (Nat.le_of_ble_eq_true rfl) dX0_stepsToSynchronize_68 rfl (fun q3 => ?_)
      refine z_lstore_n (lv2 := [(1, .long q3.1), (0, .ref (b0 + x0)), (3, .int x3), (4, .int x4)]) 72 dX0_stepsToSynchronize_71 rfl (Nat.le_of_ble_eq_true rfl) rfl ?_
      refine z_iinc (lv2 := [(4, .int (x4 + (nI 1))), (1, .long q3.1), (0, .ref (b0 + x0)), (3, .int x3)]) (nI 1) 75 3 dX0_stepsToSynchronize_72 rfl rfl zki_1 (Nat.le_of_ble_eq_true rfl) rfl ?_
      refine z_goto 51 dX0_stepsToSynchronize_75 (by decide) ?_
      exact z_sub [2, 3, 1, 0] rfl (hself51 q3.1 (x4 + (nI 1)) q3.2)
    · refine z_iload 65 3 dX0_stepsToSynchronize_63 rfl rfl ?_
      exact z_ireturn dX0_stepsToSynchronize_65 rfl
theorem BX0_stepsToSynchronize_51 (b0 : Nat) (x0 : Nat) (x3 : Int32) (n : Nat) (x1 : Int64) (x4 : Int32) (h : ZH) : Zr zi b0 YX0_stepsToSynchronize 6 51 [(0, .ref (b0 + x0)), (3, .int x3), (1, .long x1), (4, .int x4)] [] h (zloop (lX0_stepsToSynchronize_51 x0 x3) n (x1, x4, h)) :=
  zloop_Zr (fun s => [(0, .ref (b0 + x0)), (3, .int x3), (1, .long s.1), (4, .int s.2.1)]) (fun _ => []) (fun s => s.2.2) (lX0_stepsToSynchronize_51 x0 x3) (fun self hs s => KX0_stepsToSynchronize_51 b0 x0 x3 self (fun y1 y4 hh => hs (y1, y4, hh)) s.1 s.2.1 s.2.2) n (x1, x4, h)
def kX0_stepsToSynchronize_15 (self4 : Int64 × Int32 × ZH → Option (Int32 × ZH)) (x0 : Nat) (x3 : Int32) (self15 : Int64 × Int32 × ZH → Option (Int32 × ZH)) (x1 : Int64) (x4 : Int32) (h : ZH) : Option (Int32 × ZH) :=
  if x3 ≤ x4 then (self4 (x1, (x3 + (nI 1)), h)) else
  (zl (x1 ||| (jlshl (lN 1) (((nI 8) * x3) + x4))) fun v2 =>
  self15 (v2, (x4 + (nI 1)), h))
def lX0_stepsToSynchronize_15 (self4 : Int64 × Int32 × ZH → Option (Int32 × ZH)) (x0 : Nat) (x3 : Int32) : (Int64 × Int32 × ZH → Option (Int32 × ZH)) → Int64 × Int32 × ZH → Option (Int32 × ZH) := fun self s => kX0_stepsToSynchronize_15 self4 x0 x3 self s.1 s.2.1 s.2.2
theorem KX0_stepsToSynchronize_15 (b0 : Nat) (self4 : Int64 × Int32 × ZH → Option (Int32 × ZH)) (x0 : Nat) (x3 : Int32) (hself4 : ∀ (y1 : Int64) (y3 : Int32) (hh : ZH), Zr zi b0 YX0_stepsToSynchronize 6 4 [(0, .ref (b0 + x0)), (1, .long y1), (3, .int y3)] [] hh (self4 (y1, y3, hh))) (self15 : Int64 × Int32 × ZH → Option (Int32 × ZH)) (hself15 : ∀ (y1 : Int64) (y4 : Int32) (hh : ZH), Zr zi b0 YX0_stepsToSynchronize 6 15 [(0, .ref (b0 + x0)), (3, .int x3), (1, .long y1), (4, .int y4)] [] hh (self15 (y1, y4, hh))) (x1 : Int64) (x4 : Int32) (h : ZH) : Zr zi b0 YX0_stepsToSynchronize 6 15 [(0, .ref (b0 + x0)), (3, .int x3), (1, .long x1), (4, .int x4)] [] h (kX0_stepsToSynchronize_15 self4 x0 x3 self15 x1 x4 h) := by
  unfold kX0_stepsToSynchronize_15
  refine z_iload 17 3 dX0_stepsToSynchronize_15 rfl rfl ?_
  refine z_iload_n 18 1 dX0_stepsToSynchronize_17 rfl rfl ?_
  refine z_icmp_ge 39 21 dX0_stepsToSynchronize_18 (by decide) rfl (fun c1 => ?_) (fun c1 => ?_)
  · refine z_iinc (lv2 := [(3, .int (x3 + (nI 1))), (0, .ref (b0 + x0)), (1, .long x1), (4, .int x4)]) (nI 1) 42 1 dX0_stepsToSynchronize_39 rfl rfl zki_1 (Nat.le_of_ble_eq_true rfl) rfl ?_
    refine z_goto 4 dX0_stepsToSynchronize_42 (by decide) ?_
    exact z_sub [1, 2, 0] rfl (hself4 x1 (x3 + (nI 1)) h)
  · refine z_lload_n 22 2 dX0_stepsToSynchronize_21 rfl rfl ?_
    refine z_lconst (lN 1) 23 rfl dX0_stepsToSynchronize_22 rfl ?_
    refine z_bipush (nI 8) 25 zkb_8 dX0_stepsToSynchronize_23 rfl ?_
    refine z_iload_n 26 1 dX0_stepsToSynchronize_25 rfl rfl ?_
    refine z_imul 27 dX0_stepsToSynchronize_26 rfl ?_
    refine z_iload 29 3 dX0_stepsToSynchronize_27 rfl rfl ?_
    refine z_iadd 30 dX0_stepsToSynchronize_29 rfl ?_
    refine z_lshl 31 dX0_stepsToSynchronize_30 rfl ?_
    refine z_lor 32 dX0_stepsToSynchronize_31 rfl ?_
    refine z_letJ (fun v2 _ => ?_)
    refine z_lstore_n (lv2 := [(1, .long v2), (0, .ref (b0 + x0)), (3, .int x3), (4, .int x4)]) 33 dX0_stepsToSynchronize_32 rfl (Nat.le_of_ble_eq_true rfl) rfl ?_
    refine z_iinc (lv2 := [(4, .int (x4 + (nI 1))), (1, .long v2), (0, .ref (b0 + x0)), (3, .int x3)]) (nI 1) 36 3 dX0_stepsToSynchronize_33 rfl rfl zki_1 (Nat.le_of_ble_eq_true rfl) rfl ?_
    refine z_goto 15 dX0_stepsToSynchronize_36 (by decide) ?_
    exact z_sub [2, 3, 1, 0] rfl (hself15 v2 (x4 + (nI 1)) h)
theorem BX0_stepsToSynchronize_15 (b0 : Nat) (self4 : Int64 × Int32 × ZH → Option (Int32 × ZH)) (x0 : Nat) (x3 : Int32) (hself4 : ∀ (y1 : Int64) (y3 : Int32) (hh : ZH), Zr zi b0 YX0_stepsToSynchronize 6 4 [(0, .ref (b0 + x0)), (1, .long y1), (3, .int y3)] [] hh (self4 (y1, y3, hh))) (n : Nat) (x1 : Int64) (x4 : Int32) (h : ZH) : Zr zi b0 YX0_stepsToSynchronize 6 15 [(0, .ref (b0 + x0)), (3, .int x3), (1, .long x1), (4, .int x4)] [] h (zloop (lX0_stepsToSynchronize_15 self4 x0 x3) n (x1, x4, h)) :=
  zloop_Zr (fun s => [(0, .ref (b0 + x0)), (3, .int x3), (1, .long s.1), (4, .int s.2.1)]) (fun _ => []) (fun s => s.2.2) (lX0_stepsToSynchronize_15 self4 x0 x3) (fun self hs s => KX0_stepsToSynchronize_15 b0 self4 x0 x3 hself4 self (fun y1 y4 hh => hs (y1, y4, hh)) s.1 s.2.1 s.2.2) n (x1, x4, h)
def kX0_stepsToSynchronize_4 (x0 : Nat) (self4 : Int64 × Int32 × ZH → Option (Int32 × ZH)) (x1 : Int64) (x3 : Int32) (h : ZH) : Option (Int32 × ZH) :=
  (gI h 0 x0 7).bind fun v1 =>
  if v1 ≤ x3 then (zloop (lX0_stepsToSynchronize_51 x0 (nI 28)) zfu (x1, (nI 0), h)) else
  (zloop (lX0_stepsToSynchronize_15 self4 x0 x3) zfu (x1, (nI 0), h))
def lX0_stepsToSynchronize_4 (x0 : Nat) : (Int64 × Int32 × ZH → Option (Int32 × ZH)) → Int64 × Int32 × ZH → Option (Int32 × ZH) := fun self s => kX0_stepsToSynchronize_4 x0 self s.1 s.2.1 s.2.2
theorem KX0_stepsToSynchronize_4 (b0 : Nat) (x0 : Nat) (self4 : Int64 × Int32 × ZH → Option (Int32 × ZH)) (hself4 : ∀ (y1 : Int64) (y3 : Int32) (hh : ZH), Zr zi b0 YX0_stepsToSynchronize 6 4 [(0, .ref (b0 + x0)), (1, .long y1), (3, .int y3)] [] hh (self4 (y1, y3, hh))) (x1 : Int64) (x3 : Int32) (h : ZH) : Zr zi b0 YX0_stepsToSynchronize 6 4 [(0, .ref (b0 + x0)), (1, .long x1), (3, .int x3)] [] h (kX0_stepsToSynchronize_4 x0 self4 x1 x3 h) := by
  unfold kX0_stepsToSynchronize_4
  refine z_iload_n 5 2 dX0_stepsToSynchronize_4 rfl rfl ?_
  refine z_aload_n 6 0 dX0_stepsToSynchronize_5 rfl rfl ?_
  refine z_getI 9 zC0 (Nat.le_of_ble_eq_true rfl) rfl w_150 dX0_stepsToSynchronize_6 rfl (fun v1 _ => ?_)
  refine z_icmp_ge 45 12 dX0_stepsToSynchronize_9 (by decide) rfl (fun c2 => ?_) (fun c2 => ?_)
  · refine z_bipush (nI 28) 47 zkb_28 dX0_stepsToSynchronize_45 rfl ?_
    refine z_istore_n (lv2 := [(3, .int (nI 28)), (0, .ref (b0 + x0)), (1, .long x1)]) 48 dX0_stepsToSynchronize_47 rfl (Nat.le_of_ble_eq_true rfl) rfl ?_
    refine z_iconst (nI 0) 49 zki_0 dX0_stepsToSynchronize_48 rfl ?_
    refine z_istore (lv2 := [(4, .int (nI 0)), (3, .int (nI 28)), (0, .ref (b0 + x0)), (1, .long x1)]) 51 dX0_stepsToSynchronize_49 rfl (Nat.le_of_ble_eq_true rfl) rfl ?_
    exact z_sub [2, 1, 3, 0] rfl (BX0_stepsToSynchronize_51 b0 x0 (nI 28) zfu x1 (nI 0) h)
  · refine z_iconst (nI 0) 13 zki_0 dX0_stepsToSynchronize_12 rfl ?_
    refine z_istore (lv2 := [(4, .int (nI 0)), (0, .ref (b0 + x0)), (1, .long x1), (3, .int x3)]) 15 dX0_stepsToSynchronize_13 rfl (Nat.le_of_ble_eq_true rfl) rfl ?_
    exact z_sub [1, 3, 2, 0] rfl (BX0_stepsToSynchronize_15 b0 self4 x0 x3 hself4 zfu x1 (nI 0) h)
theorem BX0_stepsToSynchronize_4 (b0 : Nat) (x0 : Nat) (n : Nat) (x1 : Int64) (x3 : Int32) (h : ZH) : Zr zi b0 YX0_stepsToSynchronize 6 4 [(0, .ref (b0 + x0)), (1, .long x1), (3, .int x3)] [] h (zloop (lX0_stepsToSynchronize_4 x0) n (x1, x3, h)) :=
  zloop_Zr (fun s => [(0, .ref (b0 + x0)), (1, .long s.1), (3, .int s.2.1)]) (fun _ => []) (fun s => s.2.2) (lX0_stepsToSynchronize_4 x0) (fun self hs s => KX0_stepsToSynchronize_4 b0 x0 self (fun y1 y3 hh => hs (y1, y3, hh)) s.1 s.2.1 s.2.2) n (x1, x3, h)
def fX0_stepsToSynchronize (x0 : Nat) (h : ZH) : Option (Int32 × ZH) :=
  if x0 < zn h ∧ zK h x0 = 0 then (zloop (lX0_stepsToSynchronize_4 x0) zfu ((lN 0), (nI 0), h)) else none
theorem kX0_stepsToSynchronize {x0 : Nat} {h : ZH} {x : Int32 × ZH} (e : fX0_stepsToSynchronize x0 h = some x) : x0 < zn h ∧ zK h x0 = 0 := by
  unfold fX0_stepsToSynchronize at e
  exact zguard e
theorem mX0_stepsToSynchronize (b0 : Nat) (x0 : Nat) (h : ZH) : ZM zi b0 YX0_stepsToSynchronize 6 [.ref (b0 + x0)] h (fX0_stepsToSynchronize x0 h) := by
  unfold fX0_stepsToSynchronize
  refine ZM.of (by decide) rfl (Nat.le_of_ble_eq_true rfl) (fun _ => trivial) ?_
  refine z_sub (lv2 := [(0, .ref (b0 + x0))]) [0] rfl ?_
  refine z_guard (fun _ => ?_)
  refine z_lconst (lN 0) 1 rfl dX0_stepsToSynchronize_0 rfl ?_
  refine z_lstore_n (lv2 := [(1, .long (lN 0)), (0, .ref (b0 + x0))]) 2 dX0_stepsToSynchronize_1 rfl (Nat.le_of_ble_eq_true rfl) rfl ?_
  refine z_iconst (nI 0) 3 zki_0 dX0_stepsToSynchronize_2 rfl ?_
  refine z_istore_n (lv2 := [(3, .int (nI 0)), (1, .long (lN 0)), (0, .ref (b0 + x0))]) 4 dX0_stepsToSynchronize_3 rfl (Nat.le_of_ble_eq_true rfl) rfl ?_
  exact z_sub [2, 1, 0] rfl (BX0_stepsToSynchronize_4 b0 x0 zfu (lN 0) (nI 0) h)
-- X1_copyOf
def fX1_copyOf (x0 : Nat) (x1 : Nat) (h : ZH) : Option (ZH) :=
  if x0 < zn h ∧ zK h x0 = 1 then ((gR h 1 x1 0).bind fun v1 =>
  (gR h 1 x0 0).bind fun v2 =>
  (zcpI h v1 v2 (nI 0) (nI 0) (nI 32)).bind fun h3 =>
  some h3) else none
theorem kX1_copyOf {x0 : Nat} {x1 : Nat} {h : ZH} {x : ZH} (e : fX1_copyOf x0 x1 h = some x) : x0 < zn h ∧ zK h x0 = 1 := by
  unfold fX1_copyOf at e
  exact zguard e
theorem mX1_copyOf (b0 : Nat) (x0 : Nat) (x1 : Nat) (h : ZH) : ZM zv b0 YX1_copyOf 2 [.ref (b0 + x0), .ref (b0 + x1)] h (fX1_copyOf x0 x1 h) := by
  unfold fX1_copyOf
  refine ZM.of (by decide) rfl (Nat.le_of_ble_eq_true rfl) (fun _ => trivial) ?_
  refine z_sub (lv2 := [(0, .ref (b0 + x0)), (1, .ref (b0 + x1))]) [0, 1] rfl ?_
  refine z_guard (fun _ => ?_)
  refine z_aload_n 1 1 dX1_copyOf_0 rfl rfl ?_
  refine z_getR 4 zC1 (Nat.le_of_ble_eq_true rfl) rfl w_40 dX1_copyOf_1 rfl (fun v1 _ => ?_)
  refine z_iconst (nI 0) 5 zki_0 dX1_copyOf_4 rfl ?_
  refine z_aload_n 6 0 dX1_copyOf_5 rfl rfl ?_
  refine z_getR 9 zC1 (Nat.le_of_ble_eq_true rfl) rfl w_40 dX1_copyOf_6 rfl (fun v2 _ => ?_)
  refine z_iconst (nI 0) 10 zki_0 dX1_copyOf_9 rfl ?_
  refine z_bipush (nI 32) 12 zkb_32 dX1_copyOf_10 rfl ?_
  refine z_arraycopyI 15 w_317 wv_arraycopyName wt_arraycopyName wi_RJ10 (Nat.le_of_ble_eq_true rfl) (Nat.le_of_ble_eq_true rfl) dX1_copyOf_12 rfl (fun h3 _ => ?_)
  exact z_return dX1_copyOf_15 rfl
-- X1_drop
def bX1_drop_39 (h : ZH) : Option (ZH) :=
  some h
theorem BX1_drop_39 (b0 : Nat) (h : ZH) : Zr zv b0 YX1_drop 2 39 [] [] h (bX1_drop_39 h) := by
  unfold bX1_drop_39
  exact z_return dX1_drop_39 rfl
def fX1_drop (x0 : Nat) (x1 : Int32) (x2 : Int32) (x3 : Int32) (h : ZH) : Option (ZH) :=
  if x0 < zn h ∧ zK h x0 = 1 then ((fX10_isVertex x1 h).bind fun q1 =>
  if q1.1 = 0 then (bX1_drop_39 q1.2) else
  ((fX10_isLetter x2 q1.2).bind fun q3 =>
  if q3.1 = 0 then (bX1_drop_39 q3.2) else
  ((fX10_isVertex x3 q3.2).bind fun q5 =>
  if q5.1 = 0 then (bX1_drop_39 q5.2) else
  ((gR q5.2 1 x0 0).bind fun v7 =>
  zl (((nI 4) * x1) + x2) fun v8 =>
  (lI q5.2 14 v7 v8).bind fun v9 =>
  (sI q5.2 14 v7 v8 (v9 &&& ((jshl (nI 1) x3) ^^^ (-1 : Int32)))).bind fun h10 =>
  bX1_drop_39 h10)))) else none
theorem kX1_drop {x0 : Nat} {x1 : Int32} {x2 : Int32} {x3 : Int32} {h : ZH} {x : ZH} (e : fX1_drop x0 x1 x2 x3 h = some x) : x0 < zn h ∧ zK h x0 = 1 := by
  unfold fX1_drop at e
  exact zguard e
theorem mX1_drop (b0 : Nat) (x0 : Nat) (x1 : Int32) (x2 : Int32) (x3 : Int32) (h : ZH) : ZM zv b0 YX1_drop 2 [.ref (b0 + x0), .int x1, .int x2, .int x3] h (fX1_drop x0 x1 x2 x3 h) := by
  unfold fX1_drop
  refine ZM.of (by decide) rfl (Nat.le_of_ble_eq_true rfl) (fun _ => trivial) ?_
  refine z_sub (lv2 := [(0, .ref (b0 + x0)), (1, .int x1), (2, .int x2), (3, .int x3)]) [0, 1, 2, 3] rfl ?_
  refine z_guard (fun _ => ?_)
  refine z_iload_n 1 1 dX1_drop_0 rfl rfl ?_
  refine z_callSNi 4 (mX10_isVertex b0 x1 h) zyX10_isVertex rfl (List.mem_of_getElem? (i := 12) rfl) wt_yX10_isVertex (Nat.le_of_ble_eq_true rfl) rfl (Nat.le_of_ble_eq_true rfl) dX1_drop_1 rfl (fun q1 => ?_)
  refine z_if_eq 39 7 dX1_drop_4 (by decide) rfl (fun c2 => ?_) (fun c2 => ?_)
  · exact z_sub [] rfl (BX1_drop_39 b0 q1.2 )
  · refine z_iload_n 8 2 dX1_drop_7 rfl rfl ?_
    refine z_callSNi 11 (mX10_isLetter b0 x2 q1.2) zyX10_isLetter rfl (List.mem_of_getElem? (i := 13) rfl) wt_yX10_isLetter (Nat.le_of_ble_eq_true rfl) rfl (Nat.le_of_ble_eq_true rfl) dX1_drop_8 rfl (fun q3 => ?_)
    refine z_if_eq 39 14 dX1_drop_11 (by decide) rfl (fun c4 => ?_) (fun c4 => ?_)
    · exact z_sub [] rfl (BX1_drop_39 b0 q3.2 )
    · refine z_iload_n 15 3 dX1_drop_14 rfl rfl ?_
      refine z_callSNi 18 (mX10_isVertex b0 x3 q3.2) zyX10_isVertex rfl (List.mem_of_getElem? (i := 12) rfl) wt_yX10_isVertex (Nat.le_of_ble_eq_true rfl) rfl (Nat.le_of_ble_eq_true rfl) dX1_drop_15 rfl (fun q5 => ?_)
      refine z_if_eq 39 21 dX1_drop_18 (by decide) rfl (fun c6 => ?_) (fun c6 => ?_)
      · exact z_sub [] rfl (BX1_drop_39 b0 q5.2 )
      · refine z_aload_n 22 0 dX1_drop_21 rfl rfl ?_
        refine z_getR 25 zC1 (Nat.le_of_ble_eq_true rfl) rfl w_40 dX1_drop_22 rfl (fun v7 _ => ?_)
        refine z_iconst (nI 4) 26 zki_4 dX1_drop_25 rfl ?_
        refine z_iload_n 27 1 dX1_drop_26 rfl rfl ?_
        refine z_imul 28 dX1_drop_27 rfl ?_
        refine z_iload_n 29 2 dX1_drop_28 rfl rfl ?_
        refine z_iadd 30 dX1_drop_29 rfl ?_
        refine z_letI (fun v8 _ => ?_)
        refine z_dup2 31 rfl rfl dX1_drop_30 rfl ?_
        refine z_iaload 32 dX1_drop_31 rfl (fun v9 _ => ?_)
        refine z_iconst (nI 1) 33 zki_1 dX1_drop_32 rfl ?_
        refine z_iload_n 34 3 dX1_drop_33 rfl rfl ?_
        refine z_ishl 35 dX1_drop_34 rfl ?_
        refine z_iconst (-1 : Int32) 36 zki_m1 dX1_drop_35 rfl ?_
        refine z_ixor 37 dX1_drop_36 rfl ?_
        refine z_iand 38 dX1_drop_37 rfl ?_
        refine z_iastore 39 dX1_drop_38 rfl (fun h10 _ => ?_)
        exact z_sub [] rfl (BX1_drop_39 b0 h10 )
-- X1_countEdges
def kX1_countEdges_4 (x0 : Nat) (self4 : Int32 × Int32 × ZH → Option (Int32 × ZH)) (x1 : Int32) (x2 : Int32) (h : ZH) : Option (Int32 × ZH) :=
  if (nI 32) ≤ x2 then (some (x1, h)) else
  ((gR h 1 x0 0).bind fun v2 =>
  (lI h 14 v2 x2).bind fun v3 =>
  (fJ6_bitCount_0f7a4 v3 h).bind fun q4 =>
  zl (x1 + q4.1) fun v5 =>
  self4 (v5, (x2 + (nI 1)), q4.2))
def lX1_countEdges_4 (x0 : Nat) : (Int32 × Int32 × ZH → Option (Int32 × ZH)) → Int32 × Int32 × ZH → Option (Int32 × ZH) := fun self s => kX1_countEdges_4 x0 self s.1 s.2.1 s.2.2
theorem KX1_countEdges_4 (b0 : Nat) (x0 : Nat) (self4 : Int32 × Int32 × ZH → Option (Int32 × ZH)) (hself4 : ∀ (y1 : Int32) (y2 : Int32) (hh : ZH), Zr zi b0 YX1_countEdges 2 4 [(0, .ref (b0 + x0)), (1, .int y1), (2, .int y2)] [] hh (self4 (y1, y2, hh))) (x1 : Int32) (x2 : Int32) (h : ZH) : Zr zi b0 YX1_countEdges 2 4 [(0, .ref (b0 + x0)), (1, .int x1), (2, .int x2)] [] h (kX1_countEdges_4 x0 self4 x1 x2 h) := by
  unfold kX1_countEdges_4
  refine z_iload_n 5 2 dX1_countEdges_4 rfl rfl ?_
  refine z_bipush (nI 32) 7 zkb_32 dX1_countEdges_5 rfl ?_
  refine z_icmp_ge 28 10 dX1_countEdges_7 (by decide) rfl (fun c1 => ?_) (fun c1 => ?_)
  · refine z_iload_n 29 1 dX1_countEdges_28 rfl rfl ?_
    exact z_ireturn dX1_countEdges_29 rfl
  · refine z_iload_n 11 1 dX1_countEdges_10 rfl rfl ?_
    refine z_aload_n 12 0 dX1_countEdges_11 rfl rfl ?_
    refine z_getR 15 zC1 (Nat.le_of_ble_eq_true rfl) rfl w_40 dX1_countEdges_12 rfl (fun v2 _ => ?_)
    refine z_iload_n 16 2 dX1_countEdges_15 rfl rfl ?_
    refine z_iaload 17 dX1_countEdges_16 rfl (fun v3 _ => ?_)
    refine z_callSi 20 (mJ6_bitCount_0f7a4 b0 v3 h) zyJ6_bitCount_0f7a4 rfl w_337 wt_yJ6_bitCount_0f7a4 (Nat.le_of_ble_eq_true rfl) rfl (Nat.le_of_ble_eq_true rfl) dX1_countEdges_17 rfl (fun q4 => ?_)
    refine z_iadd 21 dX1_countEdges_20 rfl ?_
    refine z_letI (fun v5 _ => ?_)
    refine z_istore_n (lv2 := [(1, .int v5), (0, .ref (b0 + x0)), (2, .int x2)]) 22 dX1_countEdges_21 rfl (Nat.le_of_ble_eq_true rfl) rfl ?_
    refine z_iinc (lv2 := [(2, .int (x2 + (nI 1))), (1, .int v5), (0, .ref (b0 + x0))]) (nI 1) 25 2 dX1_countEdges_22 rfl rfl zki_1 (Nat.le_of_ble_eq_true rfl) rfl ?_
    refine z_goto 4 dX1_countEdges_25 (by decide) ?_
    exact z_sub [2, 1, 0] rfl (hself4 v5 (x2 + (nI 1)) q4.2)
theorem BX1_countEdges_4 (b0 : Nat) (x0 : Nat) (n : Nat) (x1 : Int32) (x2 : Int32) (h : ZH) : Zr zi b0 YX1_countEdges 2 4 [(0, .ref (b0 + x0)), (1, .int x1), (2, .int x2)] [] h (zloop (lX1_countEdges_4 x0) n (x1, x2, h)) :=
  zloop_Zr (fun s => [(0, .ref (b0 + x0)), (1, .int s.1), (2, .int s.2.1)]) (fun _ => []) (fun s => s.2.2) (lX1_countEdges_4 x0) (fun self hs s => KX1_countEdges_4 b0 x0 self (fun y1 y2 hh => hs (y1, y2, hh)) s.1 s.2.1 s.2.2) n (x1, x2, h)
def fX1_countEdges (x0 : Nat) (h : ZH) : Option (Int32 × ZH) :=
  if x0 < zn h ∧ zK h x0 = 1 then (zloop (lX1_countEdges_4 x0) zfu ((nI 0), (nI 0), h)) else none
theorem kX1_countEdges {x0 : Nat} {h : ZH} {x : Int32 × ZH} (e : fX1_countEdges x0 h = some x) : x0 < zn h ∧ zK h x0 = 1 := by
  unfold fX1_countEdges at e
  exact zguard e
theorem mX1_countEdges (b0 : Nat) (x0 : Nat) (h : ZH) : ZM zi b0 YX1_countEdges 2 [.ref (b0 + x0)] h (fX1_countEdges x0 h) := by
  unfold fX1_countEdges
  refine ZM.of (by decide) rfl (Nat.le_of_ble_eq_true rfl) (fun _ => trivial) ?_
  refine z_sub (lv2 := [(0, .ref (b0 + x0))]) [0] rfl ?_
  refine z_guard (fun _ => ?_)
  refine z_iconst (nI 0) 1 zki_0 dX1_countEdges_0 rfl ?_
  refine z_istore_n (lv2 := [(1, .int (nI 0)), (0, .ref (b0 + x0))]) 2 dX1_countEdges_1 rfl (Nat.le_of_ble_eq_true rfl) rfl ?_
  refine z_iconst (nI 0) 3 zki_0 dX1_countEdges_2 rfl ?_
  refine z_istore_n (lv2 := [(2, .int (nI 0)), (1, .int (nI 0)), (0, .ref (b0 + x0))]) 4 dX1_countEdges_3 rfl (Nat.le_of_ble_eq_true rfl) rfl ?_
  exact z_sub [2, 1, 0] rfl (BX1_countEdges_4 b0 x0 zfu (nI 0) (nI 0) h)
-- X1_copyCoreOf
def bX1_copyCoreOf_65 (self7 : Int32 × ZH → Option (ZH)) (self31 : Int32 × ZH → Option (ZH)) (x0 : Nat) (x1 : Nat) (x2 : Int32) (x3 : Int32) (x4 : Int32) (x5 : Int32) (t0 : Int32) (t1 : Int32) (t2 : Nat) (h : ZH) : Option (ZH) :=
  (sI h 14 t2 t1 t0).bind fun h1 =>
  self31 ((x5 + (nI 1)), h1)
theorem BX1_copyCoreOf_65 (b0 : Nat) (self7 : Int32 × ZH → Option (ZH)) (self31 : Int32 × ZH → Option (ZH)) (x0 : Nat) (x1 : Nat) (x2 : Int32) (x3 : Int32) (x4 : Int32) (x5 : Int32) (t0 : Int32) (t1 : Int32) (t2 : Nat) (h : ZH) (hself7 : ∀ (y3 : Int32) (hh : ZH), Zr zv b0 YX1_copyCoreOf 4 7 [(0, .ref (b0 + x0)), (1, .ref (b0 + x1)), (2, .int x2), (3, .int y3)] [] hh (self7 (y3, hh))) (hself31 : ∀ (y5 : Int32) (hh : ZH), Zr zv b0 YX1_copyCoreOf 4 31 [(0, .ref (b0 + x0)), (1, .ref (b0 + x1)), (2, .int x2), (3, .int x3), (4, .int x4), (5, .int y5)] [] hh (self31 (y5, hh))) : Zr zv b0 YX1_copyCoreOf 4 65 [(0, .ref (b0 + x0)), (1, .ref (b0 + x1)), (2, .int x2), (3, .int x3), (4, .int x4), (5, .int x5)] [.int t0, .int t1, .ref (b0 + t2)] h (bX1_copyCoreOf_65 self7 self31 x0 x1 x2 x3 x4 x5 t0 t1 t2 h) := by
  unfold bX1_copyCoreOf_65
  refine z_iastore 66 dX1_copyCoreOf_65 rfl (fun h1 _ => ?_)
  refine z_iinc (lv2 := [(5, .int (x5 + (nI 1))), (0, .ref (b0 + x0)), (1, .ref (b0 + x1)), (2, .int x2), (3, .int x3), (4, .int x4)]) (nI 1) 69 5 dX1_copyCoreOf_66 rfl rfl zki_1 (Nat.le_of_ble_eq_true rfl) rfl ?_
  refine z_goto 31 dX1_copyCoreOf_69 (by decide) ?_
  exact z_sub [1, 2, 3, 4, 5, 0] rfl (hself31 (x5 + (nI 1)) h1)
def kX1_copyCoreOf_31 (self7 : Int32 × ZH → Option (ZH)) (x0 : Nat) (x1 : Nat) (x2 : Int32) (x3 : Int32) (x4 : Int32) (self31 : Int32 × ZH → Option (ZH)) (x5 : Int32) (h : ZH) : Option (ZH) :=
  if (nI 4) ≤ x5 then (self7 ((x3 + (nI 1)), h)) else
  ((gR h 1 x0 0).bind fun v2 =>
  if x4 = 0 then (bX1_copyCoreOf_65 self7 self31 x0 x1 x2 x3 x4 x5 (nI 0) (((nI 4) * x3) + x5) v2 h) else
  ((fX1_row x1 x3 x5 h).bind fun q4 =>
  bX1_copyCoreOf_65 self7 self31 x0 x1 x2 x3 x4 x5 (q4.1 &&& x2) (((nI 4) * x3) + x5) v2 q4.2))
def lX1_copyCoreOf_31 (self7 : Int32 × ZH → Option (ZH)) (x0 : Nat) (x1 : Nat) (x2 : Int32) (x3 : Int32) (x4 : Int32) : (Int32 × ZH → Option (ZH)) → Int32 × ZH → Option (ZH) := fun self s => kX1_copyCoreOf_31 self7 x0 x1 x2 x3 x4 self s.1 s.2
theorem KX1_copyCoreOf_31 (b0 : Nat) (self7 : Int32 × ZH → Option (ZH)) (x0 : Nat) (x1 : Nat) (x2 : Int32) (x3 : Int32) (x4 : Int32) (hself7 : ∀ (y3 : Int32) (hh : ZH), Zr zv b0 YX1_copyCoreOf 4 7 [(0, .ref (b0 + x0)), (1, .ref (b0 + x1)), (2, .int x2), (3, .int y3)] [] hh (self7 (y3, hh))) (self31 : Int32 × ZH → Option (ZH)) (hself31 : ∀ (y5 : Int32) (hh : ZH), Zr zv b0 YX1_copyCoreOf 4 31 [(0, .ref (b0 + x0)), (1, .ref (b0 + x1)), (2, .int x2), (3, .int x3), (4, .int x4), (5, .int y5)] [] hh (self31 (y5, hh))) (x5 : Int32) (h : ZH) : Zr zv b0 YX1_copyCoreOf 4 31 [(0, .ref (b0 + x0)), (1, .ref (b0 + x1)), (2, .int x2), (3, .int x3), (4, .int x4), (5, .int x5)] [] h (kX1_copyCoreOf_31 self7 x0 x1 x2 x3 x4 self31 x5 h) := by
  unfold kX1_copyCoreOf_31
  refine z_iload 33 5 dX1_copyCoreOf_31 rfl rfl ?_
  refine z_iconst (nI 4) 34 zki_4 dX1_copyCoreOf_33 rfl ?_
  refine z_icmp_ge 72 37 dX1_copyCoreOf_34 (by decide) rfl (fun c1 => ?_) (fun c1 => ?_)
  · refine z_iinc (lv2 := [(3, .int (x3 + (nI 1))), (0, .ref (b0 + x0)), (1, .ref (b0 + x1)), (2, .int x2), (4, .int x4), (5, .int x5)]) (nI 1) 75 3 dX1_copyCoreOf_72 rfl rfl zki_1 (Nat.le_of_ble_eq_true rfl) rfl ?_
    refine z_goto 7 dX1_copyCoreOf_75 (by decide) ?_
    exact z_sub [1, 2, 3, 0] rfl (hself7 (x3 + (nI 1)) h)
  · refine z_aload_n 38 0 dX1_copyCoreOf_37 rfl rfl ?_
    refine z_getR 41 zC1 (Nat.le_of_ble_eq_true rfl) rfl w_40 dX1_copyCoreOf_38 rfl (fun v2 _ => ?_)
    refine z_iconst (nI 4) 42 zki_4 dX1_copyCoreOf_41 rfl ?_
    refine z_iload_n 43 3 dX1_copyCoreOf_42 rfl rfl ?_
    refine z_imul 44 dX1_copyCoreOf_43 rfl ?_
    refine z_iload 46 5 dX1_copyCoreOf_44 rfl rfl ?_
    refine z_iadd 47 dX1_copyCoreOf_46 rfl ?_
    refine z_iload 49 4 dX1_copyCoreOf_47 rfl rfl ?_
    refine z_if_eq 64 52 dX1_copyCoreOf_49 (by decide) rfl (fun c3 => ?_) (fun c3 => ?_)
    · refine z_iconst (nI 0) 65 zki_0 dX1_copyCoreOf_64 rfl ?_
      exact z_sub [0, 1, 2, 3, 4, 5] rfl (BX1_copyCoreOf_65 b0 self7 self31 x0 x1 x2 x3 x4 x5 (nI 0) (((nI 4) * x3) + x5) v2 h hself7 hself31)
    · refine z_aload_n 53 1 dX1_copyCoreOf_52 rfl rfl ?_
      refine z_iload_n 54 3 dX1_copyCoreOf_53 rfl rfl ?_
      refine z_iload 56 5 dX1_copyCoreOf_54 rfl rfl ?_
      refine z_callVi 59 (mX1_row b0 x1 x3 x5 h) zyX1_row rfl w_351 (ci := 1) rfl (Nat.le_of_ble_eq_true rfl) (fun _ e9 => kX1_row e9) wm_yX1_row ws_yX1_row (Nat.le_of_ble_eq_true rfl) rfl (Nat.le_of_ble_eq_true rfl) dX1_copyCoreOf_56 rfl (fun q4 => ?_)
      refine z_iload_n 60 2 dX1_copyCoreOf_59 rfl rfl ?_
      refine z_iand 61 dX1_copyCoreOf_60 rfl ?_
      refine z_goto 65 dX1_copyCoreOf_61 (by decide) ?_
      exact z_sub [0, 1, 2, 3, 4, 5] rfl (BX1_copyCoreOf_65 b0 self7 self31 x0 x1 x2 x3 x4 x5 (q4.1 &&& x2) (((nI 4) * x3) + x5) v2 q4.2 hself7 hself31)
theorem BX1_copyCoreOf_31 (b0 : Nat) (self7 : Int32 × ZH → Option (ZH)) (x0 : Nat) (x1 : Nat) (x2 : Int32) (x3 : Int32) (x4 : Int32) (hself7 : ∀ (y3 : Int32) (hh : ZH), Zr zv b0 YX1_copyCoreOf 4 7 [(0, .ref (b0 + x0)), (1, .ref (b0 + x1)), (2, .int x2), (3, .int y3)] [] hh (self7 (y3, hh))) (n : Nat) (x5 : Int32) (h : ZH) : Zr zv b0 YX1_copyCoreOf 4 31 [(0, .ref (b0 + x0)), (1, .ref (b0 + x1)), (2, .int x2), (3, .int x3), (4, .int x4), (5, .int x5)] [] h (zloop (lX1_copyCoreOf_31 self7 x0 x1 x2 x3 x4) n (x5, h)) :=
  zloop_Zr (fun s => [(0, .ref (b0 + x0)), (1, .ref (b0 + x1)), (2, .int x2), (3, .int x3), (4, .int x4), (5, .int s.1)]) (fun _ => []) (fun s => s.2) (lX1_copyCoreOf_31 self7 x0 x1 x2 x3 x4) (fun self hs s => KX1_copyCoreOf_31 b0 self7 x0 x1 x2 x3 x4 hself7 self (fun y5 hh => hs (y5, hh)) s.1 s.2) n (x5, h)
def bX1_copyCoreOf_26 (self7 : Int32 × ZH → Option (ZH)) (x0 : Nat) (x1 : Nat) (x2 : Int32) (x3 : Int32) (t0 : Int32) (h : ZH) : Option (ZH) :=
  zloop (lX1_copyCoreOf_31 self7 x0 x1 x2 x3 t0) zfu ((nI 0), h)
theorem BX1_copyCoreOf_26 (b0 : Nat) (self7 : Int32 × ZH → Option (ZH)) (x0 : Nat) (x1 : Nat) (x2 : Int32) (x3 : Int32) (t0 : Int32) (h : ZH) (hself7 : ∀ (y3 : Int32) (hh : ZH), Zr zv b0 YX1_copyCoreOf 4 7 [(0, .ref (b0 + x0)), (1, .ref (b0 + x1)), (2, .int x2), (3, .int y3)] [] hh (self7 (y3, hh))) : Zr zv b0 YX1_copyCoreOf 4 26 [(0, .ref (b0 + x0)), (1, .ref (b0 + x1)), (2, .int x2), (3, .int x3)] [.int t0] h (bX1_copyCoreOf_26 self7 x0 x1 x2 x3 t0 h) := by
  unfold bX1_copyCoreOf_26
  refine z_istore (lv2 := [(4, .int t0), (0, .ref (b0 + x0)), (1, .ref (b0 + x1)), (2, .int x2), (3, .int x3)]) 28 dX1_copyCoreOf_26 rfl (Nat.le_of_ble_eq_true rfl) rfl ?_
  refine z_iconst (nI 0) 29 zki_0 dX1_copyCoreOf_28 rfl ?_
  refine z_istore (lv2 := [(5, .int (nI 0)), (4, .int t0), (0, .ref (b0 + x0)), (1, .ref (b0 + x1)), (2, .int x2), (3, .int x3)]) 31 dX1_copyCoreOf_29 rfl (Nat.le_of_ble_eq_true rfl) rfl ?_
  exact z_sub [2, 3, 4, 5, 1, 0] rfl (BX1_copyCoreOf_31 b0 self7 x0 x1 x2 x3 t0 hself7 zfu (nI 0) h)
def kX1_copyCoreOf_7 (x0 : Nat) (x1 : Nat) (x2 : Int32) (self7 : Int32 × ZH → Option (ZH)) (x3 : Int32) (h : ZH) : Option (ZH) :=
  if (nI 8) ≤ x3 then (some h) else
  (if ((jshr x2 x3) &&& (nI 1)) = 0 then (bX1_copyCoreOf_26 self7 x0 x1 x2 x3 (nI 0) h) else
  (bX1_copyCoreOf_26 self7 x0 x1 x2 x3 (nI 1) h))
def lX1_copyCoreOf_7 (x0 : Nat) (x1 : Nat) (x2 : Int32) : (Int32 × ZH → Option (ZH)) → Int32 × ZH → Option (ZH) := fun self s => kX1_copyCoreOf_7 x0 x1 x2 self s.1 s.2
theorem KX1_copyCoreOf_7 (b0 : Nat) (x0 : Nat) (x1 : Nat) (x2 : Int32) (self7 : Int32 × ZH → Option (ZH)) (hself7 : ∀ (y3 : Int32) (hh : ZH), Zr zv b0 YX1_copyCoreOf 4 7 [(0, .ref (b0 + x0)), (1, .ref (b0 + x1)), (2, .int x2), (3, .int y3)] [] hh (self7 (y3, hh))) (x3 : Int32) (h : ZH) : Zr zv b0 YX1_copyCoreOf 4 7 [(0, .ref (b0 + x0)), (1, .ref (b0 + x1)), (2, .int x2), (3, .int x3)] [] h (kX1_copyCoreOf_7 x0 x1 x2 self7 x3 h) := by
  unfold kX1_copyCoreOf_7
  refine z_iload_n 8 3 dX1_copyCoreOf_7 rfl rfl ?_
  refine z_bipush (nI 8) 10 zkb_8 dX1_copyCoreOf_8 rfl ?_
  refine z_icmp_ge 78 13 dX1_copyCoreOf_10 (by decide) rfl (fun c1 => ?_) (fun c1 => ?_)
  · exact z_return dX1_copyCoreOf_78 rfl
  · refine z_iload_n 14 2 dX1_copyCoreOf_13 rfl rfl ?_
    refine z_iload_n 15 3 dX1_copyCoreOf_14 rfl rfl ?_
    refine z_ishr 16 dX1_copyCoreOf_15 rfl ?_
    refine z_iconst (nI 1) 17 zki_1 dX1_copyCoreOf_16 rfl ?_
    refine z_iand 18 dX1_copyCoreOf_17 rfl ?_
    refine z_if_eq 25 21 dX1_copyCoreOf_18 (by decide) rfl (fun c2 => ?_) (fun c2 => ?_)
    · refine z_iconst (nI 0) 26 zki_0 dX1_copyCoreOf_25 rfl ?_
      exact z_sub [0, 1, 2, 3] rfl (BX1_copyCoreOf_26 b0 self7 x0 x1 x2 x3 (nI 0) h hself7)
    · refine z_iconst (nI 1) 22 zki_1 dX1_copyCoreOf_21 rfl ?_
      refine z_goto 26 dX1_copyCoreOf_22 (by decide) ?_
      exact z_sub [0, 1, 2, 3] rfl (BX1_copyCoreOf_26 b0 self7 x0 x1 x2 x3 (nI 1) h hself7)
theorem BX1_copyCoreOf_7 (b0 : Nat) (x0 : Nat) (x1 : Nat) (x2 : Int32) (n : Nat) (x3 : Int32) (h : ZH) : Zr zv b0 YX1_copyCoreOf 4 7 [(0, .ref (b0 + x0)), (1, .ref (b0 + x1)), (2, .int x2), (3, .int x3)] [] h (zloop (lX1_copyCoreOf_7 x0 x1 x2) n (x3, h)) :=
  zloop_Zr (fun s => [(0, .ref (b0 + x0)), (1, .ref (b0 + x1)), (2, .int x2), (3, .int s.1)]) (fun _ => []) (fun s => s.2) (lX1_copyCoreOf_7 x0 x1 x2) (fun self hs s => KX1_copyCoreOf_7 b0 x0 x1 x2 self (fun y3 hh => hs (y3, hh)) s.1 s.2) n (x3, h)
def fX1_copyCoreOf (x0 : Nat) (x1 : Nat) (h : ZH) : Option (ZH) :=
  if x0 < zn h ∧ zK h x0 = 1 then ((fX1_core x1 h).bind fun q1 =>
  zloop (lX1_copyCoreOf_7 x0 x1 q1.1) zfu ((nI 0), q1.2)) else none
theorem kX1_copyCoreOf {x0 : Nat} {x1 : Nat} {h : ZH} {x : ZH} (e : fX1_copyCoreOf x0 x1 h = some x) : x0 < zn h ∧ zK h x0 = 1 := by
  unfold fX1_copyCoreOf at e
  exact zguard e
theorem mX1_copyCoreOf (b0 : Nat) (x0 : Nat) (x1 : Nat) (h : ZH) : ZM zv b0 YX1_copyCoreOf 4 [.ref (b0 + x0), .ref (b0 + x1)] h (fX1_copyCoreOf x0 x1 h) := by
  unfold fX1_copyCoreOf
  refine ZM.of (by decide) rfl (Nat.le_of_ble_eq_true rfl) (fun _ => trivial) ?_
  refine z_sub (lv2 := [(0, .ref (b0 + x0)), (1, .ref (b0 + x1))]) [0, 1] rfl ?_
  refine z_guard (fun _ => ?_)
  refine z_aload_n 1 1 dX1_copyCoreOf_0 rfl rfl ?_
  refine z_callVi 4 (mX1_core b0 x1 h) zyX1_core rfl w_448 (ci := 1) rfl (Nat.le_of_ble_eq_true rfl) (fun _ e9 => kX1_core e9) wm_yX1_core ws_yX1_core (Nat.le_of_ble_eq_true rfl) rfl (Nat.le_of_ble_eq_true rfl) dX1_copyCoreOf_1 rfl (fun q1 => ?_)
  refine z_istore_n (lv2 := [(2, .int q1.1), (0, .ref (b0 + x0)), (1, .ref (b0 + x1))]) 5 dX1_copyCoreOf_4 rfl (Nat.le_of_ble_eq_true rfl) rfl ?_
  refine z_iconst (nI 0) 6 zki_0 dX1_copyCoreOf_5 rfl ?_
  refine z_istore_n (lv2 := [(3, .int (nI 0)), (2, .int q1.1), (0, .ref (b0 + x0)), (1, .ref (b0 + x1))]) 7 dX1_copyCoreOf_6 rfl (Nat.le_of_ble_eq_true rfl) rfl ?_
  exact z_sub [2, 3, 1, 0] rfl (BX1_copyCoreOf_7 b0 x0 x1 q1.1 zfu (nI 0) q1.2)
-- X1_isStronglyConnected
def bX1_isStronglyConnected_63 (t0 : Int32) (h : ZH) : Option (Int32 × ZH) :=
  if t0 = 0 ∨ t0 = 1 then some (t0, h) else none
theorem BX1_isStronglyConnected_63 (b0 : Nat) (t0 : Int32) (h : ZH) : Zr zi b0 YX1_isStronglyConnected 4 63 [] [.int t0] h (bX1_isStronglyConnected_63 t0 h) := by
  unfold bX1_isStronglyConnected_63
  exact z_zreturn dX1_isStronglyConnected_63 rfl
def bX1_isStronglyConnected_62 (h : ZH) : Option (Int32 × ZH) :=
  bX1_isStronglyConnected_63 (nI 0) h
theorem BX1_isStronglyConnected_62 (b0 : Nat) (h : ZH) : Zr zi b0 YX1_isStronglyConnected 4 62 [] [] h (bX1_isStronglyConnected_62 h) := by
  unfold bX1_isStronglyConnected_62
  refine z_iconst (nI 0) 63 zki_0 dX1_isStronglyConnected_62 rfl ?_
  exact z_sub [] rfl (BX1_isStronglyConnected_63 b0 (nI 0) h )
def kX1_isStronglyConnected_15 (x0 : Nat) (x1 : Int32) (self15 : Int32 × Int32 × Int32 × ZH → Option (Int32 × ZH)) (x2 : Int32) (x3 : Int32) (x4 : Int32) (h : ZH) : Option (Int32 × ZH) :=
  if (nI 8) ≤ x4 then (if x1 = 0 then (bX1_isStronglyConnected_62 h) else
  (if x2 = x1 then (if x3 = x1 then (bX1_isStronglyConnected_63 (nI 1) h) else
  (bX1_isStronglyConnected_62 h)) else
  (bX1_isStronglyConnected_62 h))) else
  ((fX1_followAny x0 x2 h).bind fun q5 =>
  zl (x2 ||| q5.1) fun v6 =>
  (fX1_verticesInto x0 x3 q5.2).bind fun q7 =>
  zl (x3 ||| q7.1) fun v8 =>
  self15 (v6, v8, (x4 + (nI 1)), q7.2))
def lX1_isStronglyConnected_15 (x0 : Nat) (x1 : Int32) : (Int32 × Int32 × Int32 × ZH → Option (Int32 × ZH)) → Int32 × Int32 × Int32 × ZH → Option (Int32 × ZH) := fun self s => kX1_isStronglyConnected_15 x0 x1 self s.1 s.2.1 s.2.2.1 s.2.2.2
theorem KX1_isStronglyConnected_15 (b0 : Nat) (x0 : Nat) (x1 : Int32) (self15 : Int32 × Int32 × Int32 × ZH → Option (Int32 × ZH)) (hself15 : ∀ (y2 : Int32) (y3 : Int32) (y4 : Int32) (hh : ZH), Zr zi b0 YX1_isStronglyConnected 4 15 [(0, .ref (b0 + x0)), (1, .int x1), (2, .int y2), (3, .int y3), (4, .int y4)] [] hh (self15 (y2, y3, y4, hh))) (x2 : Int32) (x3 : Int32) (x4 : Int32) (h : ZH) : Zr zi b0 YX1_isStronglyConnected 4 15 [(0, .ref (b0 + x0)), (1, .int x1), (2, .int x2), (3, .int x3), (4, .int x4)] [] h (kX1_isStronglyConnected_15 x0 x1 self15 x2 x3 x4 h) := by
  unfold kX1_isStronglyConnected_15
  refine z_iload 17 4 dX1_isStronglyConnected_15 rfl rfl ?_
  refine z_bipush (nI 8) 19 zkb_8 dX1_isStronglyConnected_17 rfl ?_
  refine z_icmp_ge 44 22 dX1_isStronglyConnected_19 (by decide) rfl (fun c1 => ?_) (fun c1 => ?_)
  · refine z_iload_n 45 1 dX1_isStronglyConnected_44 rfl rfl ?_
    refine z_if_eq 62 48 dX1_isStronglyConnected_45 (by decide) rfl (fun c2 => ?_) (fun c2 => ?_)
    · exact z_sub [] rfl (BX1_isStronglyConnected_62 b0 h )
    · refine z_iload_n 49 2 dX1_isStronglyConnected_48 rfl rfl ?_
      refine z_iload_n 50 1 dX1_isStronglyConnected_49 rfl rfl ?_
      refine z_icmp_ne 62 53 dX1_isStronglyConnected_50 (by decide) rfl (fun c3 => ?_) (fun c3 => ?_)
      · exact z_sub [] rfl (BX1_isStronglyConnected_62 b0 h )
      · refine z_iload_n 54 3 dX1_isStronglyConnected_53 rfl rfl ?_
        refine z_iload_n 55 1 dX1_isStronglyConnected_54 rfl rfl ?_
        refine z_icmp_ne 62 58 dX1_isStronglyConnected_55 (by decide) rfl (fun c4 => ?_) (fun c4 => ?_)
        · exact z_sub [] rfl (BX1_isStronglyConnected_62 b0 h )
        · refine z_iconst (nI 1) 59 zki_1 dX1_isStronglyConnected_58 rfl ?_
          refine z_goto 63 dX1_isStronglyConnected_59 (by decide) ?_
          exact z_sub [] rfl (BX1_isStronglyConnected_63 b0 (nI 1) h )
  · refine z_iload_n 23 2 dX1_isStronglyConnected_22 rfl rfl ?_
    refine z_aload_n 24 0 dX1_isStronglyConnected_23 rfl rfl ?_
    refine z_iload_n 25 2 dX1_isStronglyConnected_24 rfl rfl ?_
    refine z_callVi 28 (mX1_followAny b0 x0 x2 h) zyX1_followAny rfl w_428 (ci := 1) rfl (Nat.le_of_ble_eq_true rfl) (fun _ e9 => kX1_followAny e9) wm_yX1_followAny ws_yX1_followAny (Nat.le_of_ble_eq_true rfl) rfl (Nat.le_of_ble_eq_true rfl) dX1_isStronglyConnected_25 rfl (fun q5 => ?_)
    refine z_ior 29 dX1_isStronglyConnected_28 rfl ?_
    refine z_letI (fun v6 _ => ?_)
    refine z_istore_n (lv2 := [(2, .int v6), (0, .ref (b0 + x0)), (1, .int x1), (3, .int x3), (4, .int x4)]) 30 dX1_isStronglyConnected_29 rfl (Nat.le_of_ble_eq_true rfl) rfl ?_
    refine z_iload_n 31 3 dX1_isStronglyConnected_30 rfl rfl ?_
    refine z_aload_n 32 1 dX1_isStronglyConnected_31 rfl rfl ?_
    refine z_iload_n 33 3 dX1_isStronglyConnected_32 rfl rfl ?_
    refine z_callVi 36 (mX1_verticesInto b0 x0 x3 q5.2) zyX1_verticesInto rfl w_436 (ci := 1) rfl (Nat.le_of_ble_eq_true rfl) (fun _ e9 => kX1_verticesInto e9) wm_yX1_verticesInto ws_yX1_verticesInto (Nat.le_of_ble_eq_true rfl) rfl (Nat.le_of_ble_eq_true rfl) dX1_isStronglyConnected_33 rfl (fun q7 => ?_)
    refine z_ior 37 dX1_isStronglyConnected_36 rfl ?_
    refine z_letI (fun v8 _ => ?_)
    refine z_istore_n (lv2 := [(3, .int v8), (2, .int v6), (0, .ref (b0 + x0)), (1, .int x1), (4, .int x4)]) 38 dX1_isStronglyConnected_37 rfl (Nat.le_of_ble_eq_true rfl) rfl ?_
    refine z_iinc (lv2 := [(4, .int (x4 + (nI 1))), (3, .int v8), (2, .int v6), (0, .ref (b0 + x0)), (1, .int x1)]) (nI 1) 41 4 dX1_isStronglyConnected_38 rfl rfl zki_1 (Nat.le_of_ble_eq_true rfl) rfl ?_
    refine z_goto 15 dX1_isStronglyConnected_41 (by decide) ?_
    exact z_sub [3, 4, 2, 1, 0] rfl (hself15 v6 v8 (x4 + (nI 1)) q7.2)
theorem BX1_isStronglyConnected_15 (b0 : Nat) (x0 : Nat) (x1 : Int32) (n : Nat) (x2 : Int32) (x3 : Int32) (x4 : Int32) (h : ZH) : Zr zi b0 YX1_isStronglyConnected 4 15 [(0, .ref (b0 + x0)), (1, .int x1), (2, .int x2), (3, .int x3), (4, .int x4)] [] h (zloop (lX1_isStronglyConnected_15 x0 x1) n (x2, x3, x4, h)) :=
  zloop_Zr (fun s => [(0, .ref (b0 + x0)), (1, .int x1), (2, .int s.1), (3, .int s.2.1), (4, .int s.2.2.1)]) (fun _ => []) (fun s => s.2.2.2) (lX1_isStronglyConnected_15 x0 x1) (fun self hs s => KX1_isStronglyConnected_15 b0 x0 x1 self (fun y2 y3 y4 hh => hs (y2, y3, y4, hh)) s.1 s.2.1 s.2.2.1 s.2.2.2) n (x2, x3, x4, h)
def fX1_isStronglyConnected (x0 : Nat) (h : ZH) : Option (Int32 × ZH) :=
  if x0 < zn h ∧ zK h x0 = 1 then ((fX1_core x0 h).bind fun q1 =>
  zl (q1.1 &&& (-q1.1)) fun v2 =>
  zloop (lX1_isStronglyConnected_15 x0 q1.1) zfu (v2, v2, (nI 0), q1.2)) else none
theorem kX1_isStronglyConnected {x0 : Nat} {h : ZH} {x : Int32 × ZH} (e : fX1_isStronglyConnected x0 h = some x) : x0 < zn h ∧ zK h x0 = 1 := by
  unfold fX1_isStronglyConnected at e
  exact zguard e
theorem mX1_isStronglyConnected (b0 : Nat) (x0 : Nat) (h : ZH) : ZM zi b0 YX1_isStronglyConnected 4 [.ref (b0 + x0)] h (fX1_isStronglyConnected x0 h) := by
  unfold fX1_isStronglyConnected
  refine ZM.of (by decide) rfl (Nat.le_of_ble_eq_true rfl) (fun _ => trivial) ?_
  refine z_sub (lv2 := [(0, .ref (b0 + x0))]) [0] rfl ?_
  refine z_guard (fun _ => ?_)
  refine z_aload_n 1 0 dX1_isStronglyConnected_0 rfl rfl ?_
  refine z_callVi 4 (mX1_core b0 x0 h) zyX1_core rfl w_448 (ci := 1) rfl (Nat.le_of_ble_eq_true rfl) (fun _ e9 => kX1_core e9) wm_yX1_core ws_yX1_core (Nat.le_of_ble_eq_true rfl) rfl (Nat.le_of_ble_eq_true rfl) dX1_isStronglyConnected_1 rfl (fun q1 => ?_)
  refine z_istore_n (lv2 := [(1, .int q1.1), (0, .ref (b0 + x0))]) 5 dX1_isStronglyConnected_4 rfl (Nat.le_of_ble_eq_true rfl) rfl ?_
  refine z_iload_n 6 0 dX1_isStronglyConnected_5 rfl rfl ?_
  refine z_iload_n 7 0 dX1_isStronglyConnected_6 rfl rfl ?_
  refine z_ineg 8 dX1_isStronglyConnected_7 rfl ?_
  refine z_iand 9 dX1_isStronglyConnected_8 rfl ?_
  refine z_letI (fun v2 _ => ?_)
  refine z_istore_n (lv2 := [(2, .int v2), (1, .int q1.1), (0, .ref (b0 + x0))]) 10 dX1_isStronglyConnected_9 rfl (Nat.le_of_ble_eq_true rfl) rfl ?_
  refine z_iload_n 11 0 dX1_isStronglyConnected_10 rfl rfl ?_
  refine z_istore_n (lv2 := [(3, .int v2), (2, .int v2), (1, .int q1.1), (0, .ref (b0 + x0))]) 12 dX1_isStronglyConnected_11 rfl (Nat.le_of_ble_eq_true rfl) rfl ?_
  refine z_iconst (nI 0) 13 zki_0 dX1_isStronglyConnected_12 rfl ?_
  refine z_istore (lv2 := [(4, .int (nI 0)), (3, .int v2), (2, .int v2), (1, .int q1.1), (0, .ref (b0 + x0))]) 15 dX1_isStronglyConnected_13 rfl (Nat.le_of_ble_eq_true rfl) rfl ?_
  exact z_sub [4, 3, 2, 1, 0] rfl (BX1_isStronglyConnected_15 b0 x0 q1.1 zfu v2 v2 (nI 0) q1.2)
-- X10_commonDivisor
def bX10_commonDivisor_44 (x4 : Int64) (h : ZH) : Option (Int64 × ZH) :=
  some (x4, h)
theorem BX10_commonDivisor_44 (b0 : Nat) (x4 : Int64) (h : ZH) : Zr zj b0 YX10_commonDivisor 1 44 [(4, .long x4)] [] h (bX10_commonDivisor_44 x4 h) := by
  unfold bX10_commonDivisor_44
  refine z_lload 46 0 dX10_commonDivisor_44 rfl rfl ?_
  exact z_lreturn dX10_commonDivisor_46 rfl
def kX10_commonDivisor_9 (self9 : Int64 × Int64 × Int32 × ZH → Option (Int64 × ZH)) (x4 : Int64) (x6 : Int64) (x8 : Int32) (h : ZH) : Option (Int64 × ZH) :=
  if (nI 100) ≤ x8 then (bX10_commonDivisor_44 x4 h) else
  (if (lg_cmp x6 (lN 0)) = 0 then (bX10_commonDivisor_44 x4 h) else
  (if x6 = 0 then none else
  zl (jlrem x4 x6) fun v3 =>
  self9 (x6, v3, (x8 + (nI 1)), h)))
def lX10_commonDivisor_9 : (Int64 × Int64 × Int32 × ZH → Option (Int64 × ZH)) → Int64 × Int64 × Int32 × ZH → Option (Int64 × ZH) := fun self s => kX10_commonDivisor_9 self s.1 s.2.1 s.2.2.1 s.2.2.2
theorem KX10_commonDivisor_9 (b0 : Nat) (self9 : Int64 × Int64 × Int32 × ZH → Option (Int64 × ZH)) (hself9 : ∀ (y4 : Int64) (y6 : Int64) (y8 : Int32) (hh : ZH), Zr zj b0 YX10_commonDivisor 1 9 [(4, .long y4), (6, .long y6), (8, .int y8)] [] hh (self9 (y4, y6, y8, hh))) (x4 : Int64) (x6 : Int64) (x8 : Int32) (h : ZH) : Zr zj b0 YX10_commonDivisor 1 9 [(4, .long x4), (6, .long x6), (8, .int x8)] [] h (kX10_commonDivisor_9 self9 x4 x6 x8 h) := by
  unfold kX10_commonDivisor_9
  refine z_iload 11 2 dX10_commonDivisor_9 rfl rfl ?_
  refine z_bipush (nI 100) 13 zkb_100 dX10_commonDivisor_11 rfl ?_
  refine z_icmp_ge 44 16 dX10_commonDivisor_13 (by decide) rfl (fun c1 => ?_) (fun c1 => ?_)
  · exact z_sub [0] rfl (BX10_commonDivisor_44 b0 x4 h )
  · refine z_lload 18 1 dX10_commonDivisor_16 rfl rfl ?_
    refine z_lconst (lN 0) 19 rfl dX10_commonDivisor_18 rfl ?_
    refine z_lcmp 20 dX10_commonDivisor_19 rfl ?_
    refine z_if_eq 44 23 dX10_commonDivisor_20 (by decide) rfl (fun c2 => ?_) (fun c2 => ?_)
    · exact z_sub [0] rfl (BX10_commonDivisor_44 b0 x4 h )
    · refine z_lload 25 0 dX10_commonDivisor_23 rfl rfl ?_
      refine z_lload 27 1 dX10_commonDivisor_25 rfl rfl ?_
      refine z_lrem 28 dX10_commonDivisor_27 rfl (fun _ => ?_)
      refine z_letJ (fun v3 _ => ?_)
      refine z_lstore (lv2 := [(9, .long v3), (4, .long x4), (6, .long x6), (8, .int x8)]) 30 dX10_commonDivisor_28 rfl (Nat.le_of_ble_eq_true rfl) rfl ?_
      refine z_lload 32 2 dX10_commonDivisor_30 rfl rfl ?_
      refine z_lstore (lv2 := [(4, .long x6), (9, .long v3), (6, .long x6), (8, .int x8)]) 34 dX10_commonDivisor_32 rfl (Nat.le_of_ble_eq_true rfl) rfl ?_
      refine z_lload 36 1 dX10_commonDivisor_34 rfl rfl ?_
      refine z_lstore (lv2 := [(6, .long v3), (4, .long x6), (9, .long v3), (8, .int x8)]) 38 dX10_commonDivisor_36 rfl (Nat.le_of_ble_eq_true rfl) rfl ?_
      refine z_iinc (lv2 := [(8, .int (x8 + (nI 1))), (6, .long v3), (4, .long x6), (9, .long v3)]) (nI 1) 41 3 dX10_commonDivisor_38 rfl rfl zki_1 (Nat.le_of_ble_eq_true rfl) rfl ?_
      refine z_goto 9 dX10_commonDivisor_41 (by decide) ?_
      exact z_sub [2, 1, 0] rfl (hself9 x6 v3 (x8 + (nI 1)) h)
theorem BX10_commonDivisor_9 (b0 : Nat) (n : Nat) (x4 : Int64) (x6 : Int64) (x8 : Int32) (h : ZH) : Zr zj b0 YX10_commonDivisor 1 9 [(4, .long x4), (6, .long x6), (8, .int x8)] [] h (zloop (lX10_commonDivisor_9 ) n (x4, x6, x8, h)) :=
  zloop_Zr (fun s => [(4, .long s.1), (6, .long s.2.1), (8, .int s.2.2.1)]) (fun _ => []) (fun s => s.2.2.2) (lX10_commonDivisor_9 ) (fun self hs s => KX10_commonDivisor_9 b0 self (fun y4 y6 y8 hh => hs (y4, y6, y8, hh)) s.1 s.2.1 s.2.2.1 s.2.2.2) n (x4, x6, x8, h)
def fX10_commonDivisor (x0 : Int64) (x2 : Int64) (h : ZH) : Option (Int64 × ZH) :=
  zloop (lX10_commonDivisor_9 ) zfu (x0, x2, (nI 0), h)
theorem mX10_commonDivisor (b0 : Nat) (x0 : Int64) (x2 : Int64) (h : ZH) : ZM zj b0 YX10_commonDivisor 1 [.long x0, .long x2] h (fX10_commonDivisor x0 x2 h) := by
  unfold fX10_commonDivisor
  refine ZM.of (by decide) rfl (Nat.le_of_ble_eq_true rfl) (fun _ => trivial) ?_
  refine z_sub (lv2 := [(0, .long x0), (2, .long x2)]) [0, 1] rfl ?_
  refine z_lload_n 1 0 dX10_commonDivisor_0 rfl rfl ?_
  refine z_lstore (lv2 := [(4, .long x0), (0, .long x0), (2, .long x2)]) 3 dX10_commonDivisor_1 rfl (Nat.le_of_ble_eq_true rfl) rfl ?_
  refine z_lload_n 4 2 dX10_commonDivisor_3 rfl rfl ?_
  refine z_lstore (lv2 := [(6, .long x2), (4, .long x0), (0, .long x0), (2, .long x2)]) 6 dX10_commonDivisor_4 rfl (Nat.le_of_ble_eq_true rfl) rfl ?_
  refine z_iconst (nI 0) 7 zki_0 dX10_commonDivisor_6 rfl ?_
  refine z_istore (lv2 := [(8, .int (nI 0)), (6, .long x2), (4, .long x0), (0, .long x0), (2, .long x2)]) 9 dX10_commonDivisor_7 rfl (Nat.le_of_ble_eq_true rfl) rfl ?_
  exact z_sub [2, 1, 0] rfl (BX10_commonDivisor_9 b0 zfu x0 x2 (nI 0) h)
-- X1_cycleDivisor
def bX1_cycleDivisor_50 (self4 : Int64 × Int32 × ZH → Option (Int32 × ZH)) (self18 : Int64 × Int32 × Int32 × ZH → Option (Int32 × ZH)) (x0 : Nat) (x1 : Int64) (x3 : Int32) (x4 : Int32) (x5 : Int32) (h : ZH) : Option (Int32 × ZH) :=
  self18 (x1, x4, (x5 + (nI 1)), h)
theorem BX1_cycleDivisor_50 (b0 : Nat) (self4 : Int64 × Int32 × ZH → Option (Int32 × ZH)) (self18 : Int64 × Int32 × Int32 × ZH → Option (Int32 × ZH)) (x0 : Nat) (x1 : Int64) (x3 : Int32) (x4 : Int32) (x5 : Int32) (h : ZH) (hself4 : ∀ (y1 : Int64) (y3 : Int32) (hh : ZH), Zr zi b0 YX1_cycleDivisor 3 4 [(0, .ref (b0 + x0)), (1, .long y1), (3, .int y3)] [] hh (self4 (y1, y3, hh))) (hself18 : ∀ (y1 : Int64) (y4 : Int32) (y5 : Int32) (hh : ZH), Zr zi b0 YX1_cycleDivisor 3 18 [(0, .ref (b0 + x0)), (3, .int x3), (1, .long y1), (4, .int y4), (5, .int y5)] [] hh (self18 (y1, y4, y5, hh))) : Zr zi b0 YX1_cycleDivisor 3 50 [(0, .ref (b0 + x0)), (1, .long x1), (3, .int x3), (4, .int x4), (5, .int x5)] [] h (bX1_cycleDivisor_50 self4 self18 x0 x1 x3 x4 x5 h) := by
  unfold bX1_cycleDivisor_50
  refine z_iinc (lv2 := [(5, .int (x5 + (nI 1))), (0, .ref (b0 + x0)), (1, .long x1), (3, .int x3), (4, .int x4)]) (nI 1) 53 4 dX1_cycleDivisor_50 rfl rfl zki_1 (Nat.le_of_ble_eq_true rfl) rfl ?_
  refine z_goto 18 dX1_cycleDivisor_53 (by decide) ?_
  exact z_sub [1, 3, 2, 4, 0] rfl (hself18 x1 x4 (x5 + (nI 1)) h)
def kX1_cycleDivisor_18 (self4 : Int64 × Int32 × ZH → Option (Int32 × ZH)) (x0 : Nat) (x3 : Int32) (self18 : Int64 × Int32 × Int32 × ZH → Option (Int32 × ZH)) (x1 : Int64) (x4 : Int32) (x5 : Int32) (h : ZH) : Option (Int32 × ZH) :=
  if (nI 8) < x5 then (self4 (x1, (x3 + (nI 1)), h)) else
  ((fX1_followAny x0 x4 h).bind fun q2 =>
  if ((jshr q2.1 x3) &&& (nI 1)) = 0 then (bX1_cycleDivisor_50 self4 self18 x0 x1 x3 q2.1 x5 q2.2) else
  ((fX10_commonDivisor (x5.toInt64) x1 q2.2).bind fun q4 =>
  bX1_cycleDivisor_50 self4 self18 x0 q4.1 x3 q2.1 x5 q4.2))
def lX1_cycleDivisor_18 (self4 : Int64 × Int32 × ZH → Option (Int32 × ZH)) (x0 : Nat) (x3 : Int32) : (Int64 × Int32 × Int32 × ZH → Option (Int32 × ZH)) → Int64 × Int32 × Int32 × ZH → Option (Int32 × ZH) := fun self s => kX1_cycleDivisor_18 self4 x0 x3 self s.1 s.2.1 s.2.2.1 s.2.2.2
theorem KX1_cycleDivisor_18 (b0 : Nat) (self4 : Int64 × Int32 × ZH → Option (Int32 × ZH)) (x0 : Nat) (x3 : Int32) (hself4 : ∀ (y1 : Int64) (y3 : Int32) (hh : ZH), Zr zi b0 YX1_cycleDivisor 3 4 [(0, .ref (b0 + x0)), (1, .long y1), (3, .int y3)] [] hh (self4 (y1, y3, hh))) (self18 : Int64 × Int32 × Int32 × ZH → Option (Int32 × ZH)) (hself18 : ∀ (y1 : Int64) (y4 : Int32) (y5 : Int32) (hh : ZH), Zr zi b0 YX1_cycleDivisor 3 18 [(0, .ref (b0 + x0)), (3, .int x3), (1, .long y1), (4, .int y4), (5, .int y5)] [] hh (self18 (y1, y4, y5, hh))) (x1 : Int64) (x4 : Int32) (x5 : Int32) (h : ZH) : Zr zi b0 YX1_cycleDivisor 3 18 [(0, .ref (b0 + x0)), (3, .int x3), (1, .long x1), (4, .int x4), (5, .int x5)] [] h (kX1_cycleDivisor_18 self4 x0 x3 self18 x1 x4 x5 h) := by
  unfold kX1_cycleDivisor_18
  refine z_iload 20 4 dX1_cycleDivisor_18 rfl rfl ?_
  refine z_bipush (nI 8) 22 zkb_8 dX1_cycleDivisor_20 rfl ?_
  refine z_icmp_gt 56 25 dX1_cycleDivisor_22 (by decide) rfl (fun c1 => ?_) (fun c1 => ?_)
  · refine z_iinc (lv2 := [(3, .int (x3 + (nI 1))), (0, .ref (b0 + x0)), (1, .long x1), (4, .int x4), (5, .int x5)]) (nI 1) 59 1 dX1_cycleDivisor_56 rfl rfl zki_1 (Nat.le_of_ble_eq_true rfl) rfl ?_
    refine z_goto 4 dX1_cycleDivisor_59 (by decide) ?_
    exact z_sub [1, 2, 0] rfl (hself4 x1 (x3 + (nI 1)) h)
  · refine z_aload_n 26 0 dX1_cycleDivisor_25 rfl rfl ?_
    refine z_iload 28 3 dX1_cycleDivisor_26 rfl rfl ?_
    refine z_callVi 31 (mX1_followAny b0 x0 x4 h) zyX1_followAny rfl w_428 (ci := 1) rfl (Nat.le_of_ble_eq_true rfl) (fun _ e9 => kX1_followAny e9) wm_yX1_followAny ws_yX1_followAny (Nat.le_of_ble_eq_true rfl) rfl (Nat.le_of_ble_eq_true rfl) dX1_cycleDivisor_28 rfl (fun q2 => ?_)
    refine z_istore (lv2 := [(4, .int q2.1), (0, .ref (b0 + x0)), (3, .int x3), (1, .long x1), (5, .int x5)]) 33 dX1_cycleDivisor_31 rfl (Nat.le_of_ble_eq_true rfl) rfl ?_
    refine z_iload 35 0 dX1_cycleDivisor_33 rfl rfl ?_
    refine z_iload_n 36 2 dX1_cycleDivisor_35 rfl rfl ?_
    refine z_ishr 37 dX1_cycleDivisor_36 rfl ?_
    refine z_iconst (nI 1) 38 zki_1 dX1_cycleDivisor_37 rfl ?_
    refine z_iand 39 dX1_cycleDivisor_38 rfl ?_
    refine z_if_eq 50 42 dX1_cycleDivisor_39 (by decide) rfl (fun c3 => ?_) (fun c3 => ?_)
    · exact z_sub [1, 3, 2, 0, 4] rfl (BX1_cycleDivisor_50 b0 self4 self18 x0 x1 x3 q2.1 x5 q2.2 hself4 hself18)
    · refine z_iload 44 4 dX1_cycleDivisor_42 rfl rfl ?_
      refine z_i2l 45 dX1_cycleDivisor_44 rfl ?_
      refine z_lload_n 46 3 dX1_cycleDivisor_45 rfl rfl ?_
      refine z_callSNj 49 (mX10_commonDivisor b0 (x5.toInt64) x1 q2.2) zyX10_commonDivisor rfl (List.mem_of_getElem? (i := 14) rfl) wt_yX10_commonDivisor (Nat.le_of_ble_eq_true rfl) rfl (Nat.le_of_ble_eq_true rfl) dX1_cycleDivisor_46 rfl (fun q4 => ?_)
      refine z_lstore_n (lv2 := [(1, .long q4.1), (4, .int q2.1), (0, .ref (b0 + x0)), (3, .int x3), (5, .int x5)]) 50 dX1_cycleDivisor_49 rfl (Nat.le_of_ble_eq_true rfl) rfl ?_
      exact z_sub [2, 0, 3, 1, 4] rfl (BX1_cycleDivisor_50 b0 self4 self18 x0 q4.1 x3 q2.1 x5 q4.2 hself4 hself18)
theorem BX1_cycleDivisor_18 (b0 : Nat) (self4 : Int64 × Int32 × ZH → Option (Int32 × ZH)) (x0 : Nat) (x3 : Int32) (hself4 : ∀ (y1 : Int64) (y3 : Int32) (hh : ZH), Zr zi b0 YX1_cycleDivisor 3 4 [(0, .ref (b0 + x0)), (1, .long y1), (3, .int y3)] [] hh (self4 (y1, y3, hh))) (n : Nat) (x1 : Int64) (x4 : Int32) (x5 : Int32) (h : ZH) : Zr zi b0 YX1_cycleDivisor 3 18 [(0, .ref (b0 + x0)), (3, .int x3), (1, .long x1), (4, .int x4), (5, .int x5)] [] h (zloop (lX1_cycleDivisor_18 self4 x0 x3) n (x1, x4, x5, h)) :=
  zloop_Zr (fun s => [(0, .ref (b0 + x0)), (3, .int x3), (1, .long s.1), (4, .int s.2.1), (5, .int s.2.2.1)]) (fun _ => []) (fun s => s.2.2.2) (lX1_cycleDivisor_18 self4 x0 x3) (fun self hs s => KX1_cycleDivisor_18 b0 self4 x0 x3 hself4 self (fun y1 y4 y5 hh => hs (y1, y4, y5, hh)) s.1 s.2.1 s.2.2.1 s.2.2.2) n (x1, x4, x5, h)
def kX1_cycleDivisor_4 (x0 : Nat) (self4 : Int64 × Int32 × ZH → Option (Int32 × ZH)) (x1 : Int64) (x3 : Int32) (h : ZH) : Option (Int32 × ZH) :=
  if (nI 8) ≤ x3 then (some ((x1.toInt32), h)) else
  (zl (jshl (nI 1) x3) fun v2 =>
  zloop (lX1_cycleDivisor_18 self4 x0 x3) zfu (x1, v2, (nI 1), h))
def lX1_cycleDivisor_4 (x0 : Nat) : (Int64 × Int32 × ZH → Option (Int32 × ZH)) → Int64 × Int32 × ZH → Option (Int32 × ZH) := fun self s => kX1_cycleDivisor_4 x0 self s.1 s.2.1 s.2.2
theorem KX1_cycleDivisor_4 (b0 : Nat) (x0 : Nat) (self4 : Int64 × Int32 × ZH → Option (Int32 × ZH)) (hself4 : ∀ (y1 : Int64) (y3 : Int32) (hh : ZH), Zr zi b0 YX1_cycleDivisor 3 4 [(0, .ref (b0 + x0)), (1, .long y1), (3, .int y3)] [] hh (self4 (y1, y3, hh))) (x1 : Int64) (x3 : Int32) (h : ZH) : Zr zi b0 YX1_cycleDivisor 3 4 [(0, .ref (b0 + x0)), (1, .long x1), (3, .int x3)] [] h (kX1_cycleDivisor_4 x0 self4 x1 x3 h) := by
  unfold kX1_cycleDivisor_4
  refine z_iload_n 5 2 dX1_cycleDivisor_4 rfl rfl ?_
  refine z_bipush (nI 8) 7 zkb_8 dX1_cycleDivisor_5 rfl ?_
  refine z_icmp_ge 62 10 dX1_cycleDivisor_7 (by decide) rfl (fun c1 => ?_) (fun c1 => ?_)
  · refine z_lload_n 63 1 dX1_cycleDivisor_62 rfl rfl ?_
    refine z_l2i 64 dX1_cycleDivisor_63 rfl ?_
    exact z_ireturn dX1_cycleDivisor_64 rfl
  · refine z_iconst (nI 1) 11 zki_1 dX1_cycleDivisor_10 rfl ?_
    refine z_iload_n 12 2 dX1_cycleDivisor_11 rfl rfl ?_
    refine z_ishl 13 dX1_cycleDivisor_12 rfl ?_
    refine z_letI (fun v2 _ => ?_)
    refine z_istore (lv2 := [(4, .int v2), (0, .ref (b0 + x0)), (1, .long x1), (3, .int x3)]) 15 dX1_cycleDivisor_13 rfl (Nat.le_of_ble_eq_true rfl) rfl ?_
    refine z_iconst (nI 1) 16 zki_1 dX1_cycleDivisor_15 rfl ?_
    refine z_istore (lv2 := [(5, .int (nI 1)), (4, .int v2), (0, .ref (b0 + x0)), (1, .long x1), (3, .int x3)]) 18 dX1_cycleDivisor_16 rfl (Nat.le_of_ble_eq_true rfl) rfl ?_
    exact z_sub [2, 4, 3, 1, 0] rfl (BX1_cycleDivisor_18 b0 self4 x0 x3 hself4 zfu x1 v2 (nI 1) h)
theorem BX1_cycleDivisor_4 (b0 : Nat) (x0 : Nat) (n : Nat) (x1 : Int64) (x3 : Int32) (h : ZH) : Zr zi b0 YX1_cycleDivisor 3 4 [(0, .ref (b0 + x0)), (1, .long x1), (3, .int x3)] [] h (zloop (lX1_cycleDivisor_4 x0) n (x1, x3, h)) :=
  zloop_Zr (fun s => [(0, .ref (b0 + x0)), (1, .long s.1), (3, .int s.2.1)]) (fun _ => []) (fun s => s.2.2) (lX1_cycleDivisor_4 x0) (fun self hs s => KX1_cycleDivisor_4 b0 x0 self (fun y1 y3 hh => hs (y1, y3, hh)) s.1 s.2.1 s.2.2) n (x1, x3, h)
def fX1_cycleDivisor (x0 : Nat) (h : ZH) : Option (Int32 × ZH) :=
  if x0 < zn h ∧ zK h x0 = 1 then (zloop (lX1_cycleDivisor_4 x0) zfu ((lN 0), (nI 0), h)) else none
theorem kX1_cycleDivisor {x0 : Nat} {h : ZH} {x : Int32 × ZH} (e : fX1_cycleDivisor x0 h = some x) : x0 < zn h ∧ zK h x0 = 1 := by
  unfold fX1_cycleDivisor at e
  exact zguard e
theorem mX1_cycleDivisor (b0 : Nat) (x0 : Nat) (h : ZH) : ZM zi b0 YX1_cycleDivisor 3 [.ref (b0 + x0)] h (fX1_cycleDivisor x0 h) := by
  unfold fX1_cycleDivisor
  refine ZM.of (by decide) rfl (Nat.le_of_ble_eq_true rfl) (fun _ => trivial) ?_
  refine z_sub (lv2 := [(0, .ref (b0 + x0))]) [0] rfl ?_
  refine z_guard (fun _ => ?_)
  refine z_lconst (lN 0) 1 rfl dX1_cycleDivisor_0 rfl ?_
  refine z_lstore_n (lv2 := [(1, .long (lN 0)), (0, .ref (b0 + x0))]) 2 dX1_cycleDivisor_1 rfl (Nat.le_of_ble_eq_true rfl) rfl ?_
  refine z_iconst (nI 0) 3 zki_0 dX1_cycleDivisor_2 rfl ?_
  refine z_istore_n (lv2 := [(3, .int (nI 0)), (1, .long (lN 0)), (0, .ref (b0 + x0))]) 4 dX1_cycleDivisor_3 rfl (Nat.le_of_ble_eq_true rfl) rfl ?_
  exact z_sub [2, 1, 0] rfl (BX1_cycleDivisor_4 b0 x0 zfu (lN 0) (nI 0) h)
-- X2_init
def kX2_init_23 (x0 : Nat) (self23 : Int32 × ZH → Option (ZH)) (x1 : Int32) (h : ZH) : Option (ZH) :=
  if (nI 10) ≤ x1 then (some h) else
  ((gR h 2 x0 0).bind fun v2 =>
  (zal h 1 1).bind fun q3 =>
  (fX1_init q3.1 q3.2).bind fun h4 =>
  (sR h4 17 v2 x1 q3.1).bind fun h5 =>
  self23 ((x1 + (nI 1)), h5))
def lX2_init_23 (x0 : Nat) : (Int32 × ZH → Option (ZH)) → Int32 × ZH → Option (ZH) := fun self s => kX2_init_23 x0 self s.1 s.2
theorem KX2_init_23 (b0 : Nat) (x0 : Nat) (self23 : Int32 × ZH → Option (ZH)) (hself23 : ∀ (y1 : Int32) (hh : ZH), Zr zv b0 YX2_init 3 23 [(0, .ref (b0 + x0)), (1, .int y1)] [] hh (self23 (y1, hh))) (x1 : Int32) (h : ZH) : Zr zv b0 YX2_init 3 23 [(0, .ref (b0 + x0)), (1, .int x1)] [] h (kX2_init_23 x0 self23 x1 h) := by
  unfold kX2_init_23
  refine z_iload_n 24 1 dX2_init_23 rfl rfl ?_
  refine z_bipush (nI 10) 26 zkb_10 dX2_init_24 rfl ?_
  refine z_icmp_ge 48 29 dX2_init_26 (by decide) rfl (fun c1 => ?_) (fun c1 => ?_)
  · exact z_return dX2_init_48 rfl
  · refine z_aload_n 30 0 dX2_init_29 rfl rfl ?_
    refine z_getR 33 zC2 (Nat.le_of_ble_eq_true rfl) rfl w_45 dX2_init_30 rfl (fun v2 _ => ?_)
    refine z_iload_n 34 1 dX2_init_33 rfl rfl ?_
    refine z_newO 37 zC1 zdf1 w_34 wn_1 wi_RX1 dX2_init_34 rfl (fun q3 => ?_)
    refine z_dup 38 rfl dX2_init_37 rfl ?_
    refine z_callINv 41 (mX1_init b0 q3.1 q3.2) zyX1_init rfl (List.mem_of_getElem? (i := 0) rfl) rfl rfl wm_yX1_init (Nat.le_of_ble_eq_true rfl) rfl (Nat.le_of_ble_eq_true rfl) dX2_init_38 rfl (fun h4 => ?_)
    refine z_aastore17 42 dX2_init_41 rfl (fun h5 _ => ?_)
    refine z_iinc (lv2 := [(1, .int (x1 + (nI 1))), (0, .ref (b0 + x0))]) (nI 1) 45 1 dX2_init_42 rfl rfl zki_1 (Nat.le_of_ble_eq_true rfl) rfl ?_
    refine z_goto 23 dX2_init_45 (by decide) ?_
    exact z_sub [1, 0] rfl (hself23 (x1 + (nI 1)) h5)
theorem BX2_init_23 (b0 : Nat) (x0 : Nat) (n : Nat) (x1 : Int32) (h : ZH) : Zr zv b0 YX2_init 3 23 [(0, .ref (b0 + x0)), (1, .int x1)] [] h (zloop (lX2_init_23 x0) n (x1, h)) :=
  zloop_Zr (fun s => [(0, .ref (b0 + x0)), (1, .int s.1)]) (fun _ => []) (fun s => s.2) (lX2_init_23 x0) (fun self hs s => KX2_init_23 b0 x0 self (fun y1 hh => hs (y1, hh)) s.1 s.2) n (x1, h)
def fX2_init (x0 : Nat) (h : ZH) : Option (ZH) :=
  if x0 < zn h ∧ zK h x0 = 2 then ((zala h 17 (nI 10)).bind fun q1 =>
  (pR q1.2 2 x0 0 q1.1).bind fun h2 =>
  (zala h2 14 (nI 10)).bind fun q3 =>
  (pR q3.2 2 x0 1 q3.1).bind fun h4 =>
  zloop (lX2_init_23 x0) zfu ((nI 0), h4)) else none
theorem kX2_init {x0 : Nat} {h : ZH} {x : ZH} (e : fX2_init x0 h = some x) : x0 < zn h ∧ zK h x0 = 2 := by
  unfold fX2_init at e
  exact zguard e
theorem mX2_init (b0 : Nat) (x0 : Nat) (h : ZH) : ZM zv b0 YX2_init 3 [.ref (b0 + x0)] h (fX2_init x0 h) := by
  unfold fX2_init
  refine ZM.of (by decide) rfl (Nat.le_of_ble_eq_true rfl) (fun _ => trivial) ?_
  refine z_sub (lv2 := [(0, .ref (b0 + x0))]) [0] rfl ?_
  refine z_guard (fun _ => ?_)
  refine z_aload_n 1 0 dX2_init_0 rfl rfl ?_
  refine z_objInit 4 w_33 wm_Lib_objectInit wc_Lib_objectInit (Nat.le_of_ble_eq_true rfl) (Nat.le_of_ble_eq_true rfl) dX2_init_1 rfl ?_
  refine z_aload_n 5 0 dX2_init_4 rfl rfl ?_
  refine z_bipush (nI 10) 7 zkb_10 dX2_init_5 rfl ?_
  refine z_newQ17 10 w_34 dX2_init_7 rfl (fun q1 => ?_)
  refine z_putF 13 zC2 (Nat.le_of_ble_eq_true rfl) rfl rfl rfl rfl rfl (Or.inl ⟨_, rfl⟩) w_45 dX2_init_10 rfl (fun h2 _ => ?_)
  refine z_aload_n 14 0 dX2_init_13 rfl rfl ?_
  refine z_bipush (nI 10) 16 zkb_10 dX2_init_14 rfl ?_
  refine z_newA_int 18 wa_int dX2_init_16 rfl (fun q3 => ?_)
  refine z_putF 21 zC2 (Nat.le_of_ble_eq_true rfl) rfl rfl rfl rfl rfl (Or.inl ⟨_, rfl⟩) w_46 dX2_init_18 rfl (fun h4 _ => ?_)
  refine z_iconst (nI 0) 22 zki_0 dX2_init_21 rfl ?_
  refine z_istore_n (lv2 := [(1, .int (nI 0)), (0, .ref (b0 + x0))]) 23 dX2_init_22 rfl (Nat.le_of_ble_eq_true rfl) rfl ?_
  exact z_sub [1, 0] rfl (BX2_init_23 b0 x0 zfu (nI 0) h4)
-- X2_push
def bX2_push_24 (x0 : Nat) (x1 : Int32) (x2 : Nat) (t0 : Int32) (t1 : Nat) (h : ZH) : Option (ZH) :=
  (pI h 2 t1 2 t0).bind fun h1 =>
  (gR h1 2 x0 0).bind fun v2 =>
  (gI h1 2 x0 2).bind fun v3 =>
  (lR h1 17 v2 v3).bind fun v4 =>
  (fX1_copyOf v4 x2 h1).bind fun h5 =>
  (gR h5 2 x0 1).bind fun v6 =>
  (gI h5 2 x0 2).bind fun v7 =>
  (sI h5 14 v6 v7 x1).bind fun h8 =>
  (gI h8 2 x0 3).bind fun v9 =>
  (pI h8 2 x0 3 (jmmin (v9 + (nI 1)) (nI 10))).bind fun h10 =>
  some h10
theorem BX2_push_24 (b0 : Nat) (x0 : Nat) (x1 : Int32) (x2 : Nat) (t0 : Int32) (t1 : Nat) (h : ZH) : Zr zv b0 YX2_push 3 24 [(0, .ref (b0 + x0)), (1, .int x1), (2, .ref (b0 + x2))] [.int t0, .ref (b0 + t1)] h (bX2_push_24 x0 x1 x2 t0 t1 h) := by
  unfold bX2_push_24
  refine z_putI 27 zC2 (Nat.le_of_ble_eq_true rfl) rfl rfl rfl w_47 dX2_push_24 rfl (fun h1 _ => ?_)
  refine z_aload_n 28 0 dX2_push_27 rfl rfl ?_
  refine z_getR 31 zC2 (Nat.le_of_ble_eq_true rfl) rfl w_45 dX2_push_28 rfl (fun v2 _ => ?_)
  refine z_aload_n 32 0 dX2_push_31 rfl rfl ?_
  refine z_getI 35 zC2 (Nat.le_of_ble_eq_true rfl) rfl w_47 dX2_push_32 rfl (fun v3 _ => ?_)
  refine z_aaload17 36 dX2_push_35 rfl (fun v4 _ => ?_)
  refine z_aload_n 37 2 dX2_push_36 rfl rfl ?_
  refine z_callVv 40 (mX1_copyOf b0 v4 x2 h1) zyX1_copyOf rfl w_313 (ci := 1) rfl (Nat.le_of_ble_eq_true rfl) (fun _ e9 => kX1_copyOf e9) wm_yX1_copyOf ws_yX1_copyOf (Nat.le_of_ble_eq_true rfl) rfl (Nat.le_of_ble_eq_true rfl) dX2_push_37 rfl (fun h5 => ?_)
  refine z_aload_n 41 0 dX2_push_40 rfl rfl ?_
  refine z_getR 44 zC2 (Nat.le_of_ble_eq_true rfl) rfl w_46 dX2_push_41 rfl (fun v6 _ => ?_)
  refine z_aload_n 45 0 dX2_push_44 rfl rfl ?_
  refine z_getI 48 zC2 (Nat.le_of_ble_eq_true rfl) rfl w_47 dX2_push_45 rfl (fun v7 _ => ?_)
  refine z_iload_n 49 1 dX2_push_48 rfl rfl ?_
  refine z_iastore 50 dX2_push_49 rfl (fun h8 _ => ?_)
  refine z_aload_n 51 0 dX2_push_50 rfl rfl ?_
  refine z_aload_n 52 0 dX2_push_51 rfl rfl ?_
  refine z_getI 55 zC2 (Nat.le_of_ble_eq_true rfl) rfl w_48 dX2_push_52 rfl (fun v9 _ => ?_)
  refine z_iconst (nI 1) 56 zki_1 dX2_push_55 rfl ?_
  refine z_iadd 57 dX2_push_56 rfl ?_
  refine z_bipush (nI 10) 59 zkb_10 dX2_push_57 rfl ?_
  refine z_mmin 62 w_320 wt_Lib_Math_min_name wi_RJ9 wc_Lib_Math_min_name (Nat.le_of_ble_eq_true rfl) (Nat.le_of_ble_eq_true rfl) dX2_push_59 rfl ?_
  refine z_putI 65 zC2 (Nat.le_of_ble_eq_true rfl) rfl rfl rfl w_48 dX2_push_62 rfl (fun h10 _ => ?_)
  exact z_return dX2_push_65 rfl
def fX2_push (x0 : Nat) (x1 : Int32) (x2 : Nat) (h : ZH) : Option (ZH) :=
  if x0 < zn h ∧ zK h x0 = 2 then ((gI h 2 x0 2).bind fun v1 =>
  (fX10_isWithin v1 (nI 0) (nI 8) h).bind fun q2 =>
  if q2.1 = 0 then (bX2_push_24 x0 x1 x2 (nI 0) x0 q2.2) else
  ((gI q2.2 2 x0 2).bind fun v4 =>
  bX2_push_24 x0 x1 x2 (v4 + (nI 1)) x0 q2.2)) else none
theorem kX2_push {x0 : Nat} {x1 : Int32} {x2 : Nat} {h : ZH} {x : ZH} (e : fX2_push x0 x1 x2 h = some x) : x0 < zn h ∧ zK h x0 = 2 := by
  unfold fX2_push at e
  exact zguard e
theorem mX2_push (b0 : Nat) (x0 : Nat) (x1 : Int32) (x2 : Nat) (h : ZH) : ZM zv b0 YX2_push 3 [.ref (b0 + x0), .int x1, .ref (b0 + x2)] h (fX2_push x0 x1 x2 h) := by
  unfold fX2_push
  refine ZM.of (by decide) rfl (Nat.le_of_ble_eq_true rfl) (fun _ => trivial) ?_
  refine z_sub (lv2 := [(0, .ref (b0 + x0)), (1, .int x1), (2, .ref (b0 + x2))]) [0, 1, 2] rfl ?_
  refine z_guard (fun _ => ?_)
  refine z_aload_n 1 0 dX2_push_0 rfl rfl ?_
  refine z_aload_n 2 0 dX2_push_1 rfl rfl ?_
  refine z_getI 5 zC2 (Nat.le_of_ble_eq_true rfl) rfl w_47 dX2_push_2 rfl (fun v1 _ => ?_)
  refine z_iconst (nI 0) 6 zki_0 dX2_push_5 rfl ?_
  refine z_bipush (nI 8) 8 zkb_8 dX2_push_6 rfl ?_
  refine z_callSNi 11 (mX10_isWithin b0 v1 (nI 0) (nI 8) h) zyX10_isWithin rfl (List.mem_of_getElem? (i := 11) rfl) wt_yX10_isWithin (Nat.le_of_ble_eq_true rfl) rfl (Nat.le_of_ble_eq_true rfl) dX2_push_8 rfl (fun q2 => ?_)
  refine z_if_eq 23 14 dX2_push_11 (by decide) rfl (fun c3 => ?_) (fun c3 => ?_)
  · refine z_iconst (nI 0) 24 zki_0 dX2_push_23 rfl ?_
    exact z_sub [0, 1, 2] rfl (BX2_push_24 b0 x0 x1 x2 (nI 0) x0 q2.2 )
  · refine z_aload_n 15 0 dX2_push_14 rfl rfl ?_
    refine z_getI 18 zC2 (Nat.le_of_ble_eq_true rfl) rfl w_47 dX2_push_15 rfl (fun v4 _ => ?_)
    refine z_iconst (nI 1) 19 zki_1 dX2_push_18 rfl ?_
    refine z_iadd 20 dX2_push_19 rfl ?_
    refine z_goto 24 dX2_push_20 (by decide) ?_
    exact z_sub [0, 1, 2] rfl (BX2_push_24 b0 x0 x1 x2 (v4 + (nI 1)) x0 q2.2 )
