-- X11_findCover
def bX11_findCover_161 (self99 : Int32 × ZH → Option (Int32 × ZH)) (self110 : Int32 × ZH → Option (Int32 × ZH)) (x0 : Nat) (x3 : Int32) (x4 : Int32) (t0 : Int32) (t1 : Int32) (t2 : Nat) (h : ZH) : Option (Int32 × ZH) :=
  (sI h 14 t2 t1 t0).bind fun h1 =>
  self110 ((x4 + (nI 1)), h1)
theorem BX11_findCover_161 (b0 : Nat) (self99 : Int32 × ZH → Option (Int32 × ZH)) (self110 : Int32 × ZH → Option (Int32 × ZH)) (x0 : Nat) (x3 : Int32) (x4 : Int32) (t0 : Int32) (t1 : Int32) (t2 : Nat) (h : ZH) (hself99 : ∀ (y3 : Int32) (hh : ZH), Zr zi b0 YX11_findCover 6 99 [(0, .ref (b0 + x0)), (3, .int y3)] [] hh (self99 (y3, hh))) (hself110 : ∀ (y4 : Int32) (hh : ZH), Zr zi b0 YX11_findCover 6 110 [(0, .ref (b0 + x0)), (3, .int x3), (4, .int y4)] [] hh (self110 (y4, hh))) : Zr zi b0 YX11_findCover 6 161 [(0, .ref (b0 + x0)), (3, .int x3), (4, .int x4)] [.int t0, .int t1, .ref (b0 + t2)] h (bX11_findCover_161 self99 self110 x0 x3 x4 t0 t1 t2 h) := by
  unfold bX11_findCover_161
  refine z_iastore 162 dX11_findCover_161 rfl (fun h1 _ => ?_)
  refine z_iinc (lv2 := [(4, .int (x4 + (nI 1))), (0, .ref (b0 + x0)), (3, .int x3)]) (nI 1) 165 2 dX11_findCover_162 rfl rfl zki_1 (Nat.le_of_ble_eq_true rfl) rfl ?_
  refine z_goto 110 dX11_findCover_165 (by decide) ?_
  exact z_sub [1, 2, 0] rfl (hself110 (x4 + (nI 1)) h1)
def kX11_findCover_110 (self99 : Int32 × ZH → Option (Int32 × ZH)) (x0 : Nat) (x3 : Int32) (self110 : Int32 × ZH → Option (Int32 × ZH)) (x4 : Int32) (h : ZH) : Option (Int32 × ZH) :=
  if (nI 4) ≤ x4 then (self99 ((x3 + (nI 1)), h)) else
  ((gR h 11 x0 31).bind fun v2 =>
  (lI h 14 v2 (((nI 4) * x3) + x4)).bind fun v3 =>
  (gR h 11 x0 35).bind fun v4 =>
  (gR h 11 x0 34).bind fun v5 =>
  (lI h 14 v5 x3).bind fun v6 =>
  if v3 = (-1 : Int32) then (bX11_findCover_161 self99 self110 x0 x3 x4 (-1 : Int32) (((nI 4) * v6) + x4) v4 h) else
  ((gR h 11 x0 34).bind fun v8 =>
  (lI h 14 v8 v3).bind fun v9 =>
  bX11_findCover_161 self99 self110 x0 x3 x4 v9 (((nI 4) * v6) + x4) v4 h))
def lX11_findCover_110 (self99 : Int32 × ZH → Option (Int32 × ZH)) (x0 : Nat) (x3 : Int32) : (Int32 × ZH → Option (Int32 × ZH)) → Int32 × ZH → Option (Int32 × ZH) := fun self s => kX11_findCover_110 self99 x0 x3 self s.1 s.2
theorem KX11_findCover_110 (b0 : Nat) (self99 : Int32 × ZH → Option (Int32 × ZH)) (x0 : Nat) (x3 : Int32) (hself99 : ∀ (y3 : Int32) (hh : ZH), Zr zi b0 YX11_findCover 6 99 [(0, .ref (b0 + x0)), (3, .int y3)] [] hh (self99 (y3, hh))) (self110 : Int32 × ZH → Option (Int32 × ZH)) (hself110 : ∀ (y4 : Int32) (hh : ZH), Zr zi b0 YX11_findCover 6 110 [(0, .ref (b0 + x0)), (3, .int x3), (4, .int y4)] [] hh (self110 (y4, hh))) (x4 : Int32) (h : ZH) : Zr zi b0 YX11_findCover 6 110 [(0, .ref (b0 + x0)), (3, .int x3), (4, .int x4)] [] h (kX11_findCover_110 self99 x0 x3 self110 x4 h) := by
  unfold kX11_findCover_110
  refine z_iload 112 2 dX11_findCover_110 rfl rfl ?_
  refine z_iconst (nI 4) 113 zki_4 dX11_findCover_112 rfl ?_
  refine z_icmp_ge 168 116 dX11_findCover_113 (by decide) rfl (fun c1 => ?_) (fun c1 => ?_)
  · refine z_iinc (lv2 := [(3, .int (x3 + (nI 1))), (0, .ref (b0 + x0)), (4, .int x4)]) (nI 1) 171 1 dX11_findCover_168 rfl rfl zki_1 (Nat.le_of_ble_eq_true rfl) rfl ?_
    refine z_goto 99 dX11_findCover_171 (by decide) ?_
    exact z_sub [1, 0] rfl (hself99 (x3 + (nI 1)) h)
  · refine z_aload_n 117 0 dX11_findCover_116 rfl rfl ?_
    refine z_getR 120 zC11 (Nat.le_of_ble_eq_true rfl) rfl w_1048 dX11_findCover_117 rfl (fun v2 _ => ?_)
    refine z_iconst (nI 4) 121 zki_4 dX11_findCover_120 rfl ?_
    refine z_iload_n 122 1 dX11_findCover_121 rfl rfl ?_
    refine z_imul 123 dX11_findCover_122 rfl ?_
    refine z_iload 125 2 dX11_findCover_123 rfl rfl ?_
    refine z_iadd 126 dX11_findCover_125 rfl ?_
    refine z_iaload 127 dX11_findCover_126 rfl (fun v3 _ => ?_)
    refine z_istore (lv2 := [(5, .int v3), (0, .ref (b0 + x0)), (3, .int x3), (4, .int x4)]) 129 dX11_findCover_127 rfl (Nat.le_of_ble_eq_true rfl) rfl ?_
    refine z_aload_n 130 1 dX11_findCover_129 rfl rfl ?_
    refine z_getR 133 zC11 (Nat.le_of_ble_eq_true rfl) rfl w_1052 dX11_findCover_130 rfl (fun v4 _ => ?_)
    refine z_iconst (nI 4) 134 zki_4 dX11_findCover_133 rfl ?_
    refine z_aload_n 135 1 dX11_findCover_134 rfl rfl ?_
    refine z_getR 138 zC11 (Nat.le_of_ble_eq_true rfl) rfl w_1051 dX11_findCover_135 rfl (fun v5 _ => ?_)
    refine z_iload_n 139 2 dX11_findCover_138 rfl rfl ?_
    refine z_iaload 140 dX11_findCover_139 rfl (fun v6 _ => ?_)
    refine z_imul 141 dX11_findCover_140 rfl ?_
    refine z_iload 143 3 dX11_findCover_141 rfl rfl ?_
    refine z_iadd 144 dX11_findCover_143 rfl ?_
    refine z_iload 146 0 dX11_findCover_144 rfl rfl ?_
    refine z_iconst (-1 : Int32) 147 zki_m1 dX11_findCover_146 rfl ?_
    refine z_icmp_ne 154 150 dX11_findCover_147 (by decide) rfl (fun c7 => ?_) (fun c7 => ?_)
    · refine z_aload_n 155 1 dX11_findCover_154 rfl rfl ?_
      refine z_getR 158 zC11 (Nat.le_of_ble_eq_true rfl) rfl w_1051 dX11_findCover_155 rfl (fun v8 _ => ?_)
      refine z_iload 160 0 dX11_findCover_158 rfl rfl ?_
      refine z_iaload 161 dX11_findCover_160 rfl (fun v9 _ => ?_)
      exact z_sub [1, 2, 3] rfl (BX11_findCover_161 b0 self99 self110 x0 x3 x4 v9 (((nI 4) * v6) + x4) v4 h hself99 hself110)
    · refine z_iconst (-1 : Int32) 151 zki_m1 dX11_findCover_150 rfl ?_
      refine z_goto 161 dX11_findCover_151 (by decide) ?_
      exact z_sub [1, 2, 3] rfl (BX11_findCover_161 b0 self99 self110 x0 x3 x4 (-1 : Int32) (((nI 4) * v6) + x4) v4 h hself99 hself110)
theorem BX11_findCover_110 (b0 : Nat) (self99 : Int32 × ZH → Option (Int32 × ZH)) (x0 : Nat) (x3 : Int32) (hself99 : ∀ (y3 : Int32) (hh : ZH), Zr zi b0 YX11_findCover 6 99 [(0, .ref (b0 + x0)), (3, .int y3)] [] hh (self99 (y3, hh))) (n : Nat) (x4 : Int32) (h : ZH) : Zr zi b0 YX11_findCover 6 110 [(0, .ref (b0 + x0)), (3, .int x3), (4, .int x4)] [] h (zloop (lX11_findCover_110 self99 x0 x3) n (x4, h)) :=
  zloop_Zr (fun s => [(0, .ref (b0 + x0)), (3, .int x3), (4, .int s.1)]) (fun _ => []) (fun s => s.2) (lX11_findCover_110 self99 x0 x3) (fun self hs s => KX11_findCover_110 b0 self99 x0 x3 hself99 self (fun y4 hh => hs (y4, hh)) s.1 s.2) n (x4, h)
def kX11_findCover_99 (x0 : Nat) (self99 : Int32 × ZH → Option (Int32 × ZH)) (x3 : Int32) (h : ZH) : Option (Int32 × ZH) :=
  (gI h 11 x0 30).bind fun v1 =>
  if v1 ≤ x3 then (some ((nI 0), h)) else
  (zloop (lX11_findCover_110 self99 x0 x3) zfu ((nI 0), h))
def lX11_findCover_99 (x0 : Nat) : (Int32 × ZH → Option (Int32 × ZH)) → Int32 × ZH → Option (Int32 × ZH) := fun self s => kX11_findCover_99 x0 self s.1 s.2
theorem KX11_findCover_99 (b0 : Nat) (x0 : Nat) (self99 : Int32 × ZH → Option (Int32 × ZH)) (hself99 : ∀ (y3 : Int32) (hh : ZH), Zr zi b0 YX11_findCover 6 99 [(0, .ref (b0 + x0)), (3, .int y3)] [] hh (self99 (y3, hh))) (x3 : Int32) (h : ZH) : Zr zi b0 YX11_findCover 6 99 [(0, .ref (b0 + x0)), (3, .int x3)] [] h (kX11_findCover_99 x0 self99 x3 h) := by
  unfold kX11_findCover_99
  refine z_iload_n 100 1 dX11_findCover_99 rfl rfl ?_
  refine z_aload_n 101 0 dX11_findCover_100 rfl rfl ?_
  refine z_getI 104 zC11 (Nat.le_of_ble_eq_true rfl) rfl w_1047 dX11_findCover_101 rfl (fun v1 _ => ?_)
  refine z_icmp_ge 174 107 dX11_findCover_104 (by decide) rfl (fun c2 => ?_) (fun c2 => ?_)
  · refine z_iconst (nI 0) 175 zki_0 dX11_findCover_174 rfl ?_
    exact z_ireturn dX11_findCover_175 rfl
  · refine z_iconst (nI 0) 108 zki_0 dX11_findCover_107 rfl ?_
    refine z_istore (lv2 := [(4, .int (nI 0)), (0, .ref (b0 + x0)), (3, .int x3)]) 110 dX11_findCover_108 rfl (Nat.le_of_ble_eq_true rfl) rfl ?_
    exact z_sub [1, 2, 0] rfl (BX11_findCover_110 b0 self99 x0 x3 hself99 zfu (nI 0) h)
theorem BX11_findCover_99 (b0 : Nat) (x0 : Nat) (n : Nat) (x3 : Int32) (h : ZH) : Zr zi b0 YX11_findCover 6 99 [(0, .ref (b0 + x0)), (3, .int x3)] [] h (zloop (lX11_findCover_99 x0) n (x3, h)) :=
  zloop_Zr (fun s => [(0, .ref (b0 + x0)), (3, .int s.1)]) (fun _ => []) (fun s => s.2) (lX11_findCover_99 x0) (fun self hs s => KX11_findCover_99 b0 x0 self (fun y3 hh => hs (y3, hh)) s.1 s.2) n (x3, h)
def bX11_findCover_85 (self26 : Int32 × ZH → Option (Int32 × ZH)) (self49 : Int32 × ZH → Option (Int32 × ZH)) (x0 : Nat) (x3 : Int32) (x4 : Int32) (h : ZH) : Option (Int32 × ZH) :=
  self49 ((x4 + (nI 1)), h)
theorem BX11_findCover_85 (b0 : Nat) (self26 : Int32 × ZH → Option (Int32 × ZH)) (self49 : Int32 × ZH → Option (Int32 × ZH)) (x0 : Nat) (x3 : Int32) (x4 : Int32) (h : ZH) (hself26 : ∀ (y3 : Int32) (hh : ZH), Zr zi b0 YX11_findCover 6 26 [(0, .ref (b0 + x0)), (3, .int y3)] [] hh (self26 (y3, hh))) (hself49 : ∀ (y4 : Int32) (hh : ZH), Zr zi b0 YX11_findCover 6 49 [(0, .ref (b0 + x0)), (3, .int x3), (4, .int y4)] [] hh (self49 (y4, hh))) : Zr zi b0 YX11_findCover 6 85 [(0, .ref (b0 + x0)), (3, .int x3), (4, .int x4)] [] h (bX11_findCover_85 self26 self49 x0 x3 x4 h) := by
  unfold bX11_findCover_85
  refine z_iinc (lv2 := [(4, .int (x4 + (nI 1))), (0, .ref (b0 + x0)), (3, .int x3)]) (nI 1) 88 2 dX11_findCover_85 rfl rfl zki_1 (Nat.le_of_ble_eq_true rfl) rfl ?_
  refine z_goto 49 dX11_findCover_88 (by decide) ?_
  exact z_sub [1, 2, 0] rfl (hself49 (x4 + (nI 1)) h)
def kX11_findCover_49 (self26 : Int32 × ZH → Option (Int32 × ZH)) (x0 : Nat) (x3 : Int32) (self49 : Int32 × ZH → Option (Int32 × ZH)) (x4 : Int32) (h : ZH) : Option (Int32 × ZH) :=
  if (nI 4) ≤ x4 then (self26 ((x3 + (nI 1)), h)) else
  ((gR h 11 x0 31).bind fun v2 =>
  (gR h 11 x0 27).bind fun v3 =>
  (lI h 14 v3 x3).bind fun v4 =>
  (lI h 14 v2 (((nI 4) * v4) + x4)).bind fun v5 =>
  if v5 = (-1 : Int32) then (bX11_findCover_85 self26 self49 x0 x3 x4 h) else
  ((fX11_see x0 v5 h).bind fun h7 =>
  bX11_findCover_85 self26 self49 x0 x3 x4 h7))
def lX11_findCover_49 (self26 : Int32 × ZH → Option (Int32 × ZH)) (x0 : Nat) (x3 : Int32) : (Int32 × ZH → Option (Int32 × ZH)) → Int32 × ZH → Option (Int32 × ZH) := fun self s => kX11_findCover_49 self26 x0 x3 self s.1 s.2
theorem KX11_findCover_49 (b0 : Nat) (self26 : Int32 × ZH → Option (Int32 × ZH)) (x0 : Nat) (x3 : Int32) (hself26 : ∀ (y3 : Int32) (hh : ZH), Zr zi b0 YX11_findCover 6 26 [(0, .ref (b0 + x0)), (3, .int y3)] [] hh (self26 (y3, hh))) (self49 : Int32 × ZH → Option (Int32 × ZH)) (hself49 : ∀ (y4 : Int32) (hh : ZH), Zr zi b0 YX11_findCover 6 49 [(0, .ref (b0 + x0)), (3, .int x3), (4, .int y4)] [] hh (self49 (y4, hh))) (x4 : Int32) (h : ZH) : Zr zi b0 YX11_findCover 6 49 [(0, .ref (b0 + x0)), (3, .int x3), (4, .int x4)] [] h (kX11_findCover_49 self26 x0 x3 self49 x4 h) := by
  unfold kX11_findCover_49
  refine z_iload 51 2 dX11_findCover_49 rfl rfl ?_
  refine z_iconst (nI 4) 52 zki_4 dX11_findCover_51 rfl ?_
  refine z_icmp_ge 91 55 dX11_findCover_52 (by decide) rfl (fun c1 => ?_) (fun c1 => ?_)
  · refine z_iinc (lv2 := [(3, .int (x3 + (nI 1))), (0, .ref (b0 + x0)), (4, .int x4)]) (nI 1) 94 1 dX11_findCover_91 rfl rfl zki_1 (Nat.le_of_ble_eq_true rfl) rfl ?_
    refine z_goto 26 dX11_findCover_94 (by decide) ?_
    exact z_sub [1, 0] rfl (hself26 (x3 + (nI 1)) h)
  · refine z_aload_n 56 0 dX11_findCover_55 rfl rfl ?_
    refine z_getR 59 zC11 (Nat.le_of_ble_eq_true rfl) rfl w_1048 dX11_findCover_56 rfl (fun v2 _ => ?_)
    refine z_iconst (nI 4) 60 zki_4 dX11_findCover_59 rfl ?_
    refine z_aload_n 61 0 dX11_findCover_60 rfl rfl ?_
    refine z_getR 64 zC11 (Nat.le_of_ble_eq_true rfl) rfl w_1044 dX11_findCover_61 rfl (fun v3 _ => ?_)
    refine z_iload_n 65 1 dX11_findCover_64 rfl rfl ?_
    refine z_iaload 66 dX11_findCover_65 rfl (fun v4 _ => ?_)
    refine z_imul 67 dX11_findCover_66 rfl ?_
    refine z_iload 69 2 dX11_findCover_67 rfl rfl ?_
    refine z_iadd 70 dX11_findCover_69 rfl ?_
    refine z_iaload 71 dX11_findCover_70 rfl (fun v5 _ => ?_)
    refine z_istore (lv2 := [(5, .int v5), (0, .ref (b0 + x0)), (3, .int x3), (4, .int x4)]) 73 dX11_findCover_71 rfl (Nat.le_of_ble_eq_true rfl) rfl ?_
    refine z_iload 75 0 dX11_findCover_73 rfl rfl ?_
    refine z_iconst (-1 : Int32) 76 zki_m1 dX11_findCover_75 rfl ?_
    refine z_icmp_eq 85 79 dX11_findCover_76 (by decide) rfl (fun c6 => ?_) (fun c6 => ?_)
    · exact z_sub [1, 2, 3] rfl (BX11_findCover_85 b0 self26 self49 x0 x3 x4 h hself26 hself49)
    · refine z_aload_n 80 1 dX11_findCover_79 rfl rfl ?_
      refine z_iload 82 0 dX11_findCover_80 rfl rfl ?_
      refine z_callVv 85 (mX11_see b0 x0 v5 h) zyX11_see rfl w_1372 (ci := 11) rfl (Nat.le_of_ble_eq_true rfl) (fun _ e9 => kX11_see e9) wm_yX11_see ws_yX11_see (Nat.le_of_ble_eq_true rfl) rfl (Nat.le_of_ble_eq_true rfl) dX11_findCover_82 rfl (fun h7 => ?_)
      exact z_sub [1, 2, 3] rfl (BX11_findCover_85 b0 self26 self49 x0 x3 x4 h7 hself26 hself49)
theorem BX11_findCover_49 (b0 : Nat) (self26 : Int32 × ZH → Option (Int32 × ZH)) (x0 : Nat) (x3 : Int32) (hself26 : ∀ (y3 : Int32) (hh : ZH), Zr zi b0 YX11_findCover 6 26 [(0, .ref (b0 + x0)), (3, .int y3)] [] hh (self26 (y3, hh))) (n : Nat) (x4 : Int32) (h : ZH) : Zr zi b0 YX11_findCover 6 49 [(0, .ref (b0 + x0)), (3, .int x3), (4, .int x4)] [] h (zloop (lX11_findCover_49 self26 x0 x3) n (x4, h)) :=
  zloop_Zr (fun s => [(0, .ref (b0 + x0)), (3, .int x3), (4, .int s.1)]) (fun _ => []) (fun s => s.2) (lX11_findCover_49 self26 x0 x3) (fun self hs s => KX11_findCover_49 b0 self26 x0 x3 hself26 self (fun y4 hh => hs (y4, hh)) s.1 s.2) n (x4, h)
def kX11_findCover_26 (x0 : Nat) (self26 : Int32 × ZH → Option (Int32 × ZH)) (x3 : Int32) (h : ZH) : Option (Int32 × ZH) :=
  (gI h 11 x0 28).bind fun v1 =>
  if v1 ≤ x3 then (zloop (lX11_findCover_99 x0) zfu ((nI 0), h)) else
  ((gR h 11 x0 34).bind fun v3 =>
  (gR h 11 x0 27).bind fun v4 =>
  (lI h 14 v4 x3).bind fun v5 =>
  (sI h 14 v3 v5 x3).bind fun h6 =>
  zloop (lX11_findCover_49 self26 x0 x3) zfu ((nI 0), h6))
def lX11_findCover_26 (x0 : Nat) : (Int32 × ZH → Option (Int32 × ZH)) → Int32 × ZH → Option (Int32 × ZH) := fun self s => kX11_findCover_26 x0 self s.1 s.2
theorem KX11_findCover_26 (b0 : Nat) (x0 : Nat) (self26 : Int32 × ZH → Option (Int32 × ZH)) (hself26 : ∀ (y3 : Int32) (hh : ZH), Zr zi b0 YX11_findCover 6 26 [(0, .ref (b0 + x0)), (3, .int y3)] [] hh (self26 (y3, hh))) (x3 : Int32) (h : ZH) : Zr zi b0 YX11_findCover 6 26 [(0, .ref (b0 + x0)), (3, .int x3)] [] h (kX11_findCover_26 x0 self26 x3 h) := by
  unfold kX11_findCover_26
  refine z_iload_n 27 1 dX11_findCover_26 rfl rfl ?_
  refine z_aload_n 28 0 dX11_findCover_27 rfl rfl ?_
  refine z_getI 31 zC11 (Nat.le_of_ble_eq_true rfl) rfl w_1045 dX11_findCover_28 rfl (fun v1 _ => ?_)
  refine z_icmp_ge 97 34 dX11_findCover_31 (by decide) rfl (fun c2 => ?_) (fun c2 => ?_)
  · refine z_iconst (nI 0) 98 zki_0 dX11_findCover_97 rfl ?_
    refine z_istore_n (lv2 := [(3, .int (nI 0)), (0, .ref (b0 + x0))]) 99 dX11_findCover_98 rfl (Nat.le_of_ble_eq_true rfl) rfl ?_
    exact z_sub [1, 0] rfl (BX11_findCover_99 b0 x0 zfu (nI 0) h)
  · refine z_aload_n 35 0 dX11_findCover_34 rfl rfl ?_
    refine z_getR 38 zC11 (Nat.le_of_ble_eq_true rfl) rfl w_1051 dX11_findCover_35 rfl (fun v3 _ => ?_)
    refine z_aload_n 39 0 dX11_findCover_38 rfl rfl ?_
    refine z_getR 42 zC11 (Nat.le_of_ble_eq_true rfl) rfl w_1044 dX11_findCover_39 rfl (fun v4 _ => ?_)
    refine z_iload_n 43 1 dX11_findCover_42 rfl rfl ?_
    refine z_iaload 44 dX11_findCover_43 rfl (fun v5 _ => ?_)
    refine z_iload_n 45 1 dX11_findCover_44 rfl rfl ?_
    refine z_iastore 46 dX11_findCover_45 rfl (fun h6 _ => ?_)
    refine z_iconst (nI 0) 47 zki_0 dX11_findCover_46 rfl ?_
    refine z_istore (lv2 := [(4, .int (nI 0)), (0, .ref (b0 + x0)), (3, .int x3)]) 49 dX11_findCover_47 rfl (Nat.le_of_ble_eq_true rfl) rfl ?_
    exact z_sub [1, 2, 0] rfl (BX11_findCover_49 b0 self26 x0 x3 hself26 zfu (nI 0) h6)
theorem BX11_findCover_26 (b0 : Nat) (x0 : Nat) (n : Nat) (x3 : Int32) (h : ZH) : Zr zi b0 YX11_findCover 6 26 [(0, .ref (b0 + x0)), (3, .int x3)] [] h (zloop (lX11_findCover_26 x0) n (x3, h)) :=
  zloop_Zr (fun s => [(0, .ref (b0 + x0)), (3, .int s.1)]) (fun _ => []) (fun s => s.2) (lX11_findCover_26 x0) (fun self hs s => KX11_findCover_26 b0 x0 self (fun y3 hh => hs (y3, hh)) s.1 s.2) n (x3, h)
def fX11_findCover (x0 : Nat) (x1 : Int32) (h : ZH) : Option (Int32 × ZH) :=
  if x0 < zn h ∧ zK h x0 = 11 then ((fX11_findMembers x0 x1 h).bind fun q1 =>
  if q1.1 = 0 then ((fX11_clearSeen x0 q1.2).bind fun h3 =>
  (fX11_resetEnd x0 h3).bind fun q4 =>
  (fX11_see x0 q4.1 q4.2).bind fun h5 =>
  zloop (lX11_findCover_26 x0) zfu ((nI 0), h5)) else
  (some (q1.1, q1.2))) else none
theorem kX11_findCover {x0 : Nat} {x1 : Int32} {h : ZH} {x : Int32 × ZH} (e : fX11_findCover x0 x1 h = some x) : x0 < zn h ∧ zK h x0 = 11 := by
  unfold fX11_findCover at e
  exact zguard e
theorem mX11_findCover (b0 : Nat) (x0 : Nat) (x1 : Int32) (h : ZH) : ZM zi b0 YX11_findCover 6 [.ref (b0 + x0), .int x1] h (fX11_findCover x0 x1 h) := by
  unfold fX11_findCover
  refine ZM.of (by decide) rfl (Nat.le_of_ble_eq_true rfl) (fun _ => trivial) ?_
  refine z_sub (lv2 := [(0, .ref (b0 + x0)), (1, .int x1)]) [0, 1] rfl ?_
  refine z_guard (fun _ => ?_)
  refine z_aload_n 1 0 dX11_findCover_0 rfl rfl ?_
  refine z_iload_n 2 1 dX11_findCover_1 rfl rfl ?_
  refine z_callVi 5 (mX11_findMembers b0 x0 x1 h) zyX11_findMembers rfl w_1360 (ci := 11) rfl (Nat.le_of_ble_eq_true rfl) (fun _ e9 => kX11_findMembers e9) wm_yX11_findMembers ws_yX11_findMembers (Nat.le_of_ble_eq_true rfl) rfl (Nat.le_of_ble_eq_true rfl) dX11_findCover_2 rfl (fun q1 => ?_)
  refine z_istore_n (lv2 := [(2, .int q1.1), (0, .ref (b0 + x0)), (1, .int x1)]) 6 dX11_findCover_5 rfl (Nat.le_of_ble_eq_true rfl) rfl ?_
  refine z_iload_n 7 0 dX11_findCover_6 rfl rfl ?_
  refine z_if_eq 12 10 dX11_findCover_7 (by decide) rfl (fun c2 => ?_) (fun c2 => ?_)
  · refine z_aload_n 13 1 dX11_findCover_12 rfl rfl ?_
    refine z_callVv 16 (mX11_clearSeen b0 x0 q1.2) zyX11_clearSeen rfl w_1368 (ci := 11) rfl (Nat.le_of_ble_eq_true rfl) (fun _ e9 => kX11_clearSeen e9) wm_yX11_clearSeen ws_yX11_clearSeen (Nat.le_of_ble_eq_true rfl) rfl (Nat.le_of_ble_eq_true rfl) dX11_findCover_13 rfl (fun h3 => ?_)
    refine z_aload_n 17 1 dX11_findCover_16 rfl rfl ?_
    refine z_aload_n 18 1 dX11_findCover_17 rfl rfl ?_
    refine z_callVi 21 (mX11_resetEnd b0 x0 h3) zyX11_resetEnd rfl w_1392 (ci := 11) rfl (Nat.le_of_ble_eq_true rfl) (fun _ e9 => kX11_resetEnd e9) wm_yX11_resetEnd ws_yX11_resetEnd (Nat.le_of_ble_eq_true rfl) rfl (Nat.le_of_ble_eq_true rfl) dX11_findCover_18 rfl (fun q4 => ?_)
    refine z_callVv 24 (mX11_see b0 x0 q4.1 q4.2) zyX11_see rfl w_1372 (ci := 11) rfl (Nat.le_of_ble_eq_true rfl) (fun _ e9 => kX11_see e9) wm_yX11_see ws_yX11_see (Nat.le_of_ble_eq_true rfl) rfl (Nat.le_of_ble_eq_true rfl) dX11_findCover_21 rfl (fun h5 => ?_)
    refine z_iconst (nI 0) 25 zki_0 dX11_findCover_24 rfl ?_
    refine z_istore_n (lv2 := [(3, .int (nI 0)), (2, .int q1.1), (0, .ref (b0 + x0)), (1, .int x1)]) 26 dX11_findCover_25 rfl (Nat.le_of_ble_eq_true rfl) rfl ?_
    exact z_sub [2, 0] rfl (BX11_findCover_26 b0 x0 zfu (nI 0) h5)
  · refine z_iload_n 11 0 dX11_findCover_10 rfl rfl ?_
    exact z_ireturn dX11_findCover_11 rfl
-- X11_cover
def bX11_cover_77 (self36 : Int32 × ZH → Option (Int32 × ZH)) (x0 : Nat) (x2 : Int32) (x4 : Int32) (t0 : Int32) (t1 : Int32) (t2 : Nat) (h : ZH) : Option (Int32 × ZH) :=
  (sI h 14 t2 t1 t0).bind fun h1 =>
  self36 ((x4 + (nI 1)), h1)
theorem BX11_cover_77 (b0 : Nat) (self36 : Int32 × ZH → Option (Int32 × ZH)) (x0 : Nat) (x2 : Int32) (x4 : Int32) (t0 : Int32) (t1 : Int32) (t2 : Nat) (h : ZH) (hself36 : ∀ (y4 : Int32) (hh : ZH), Zr zi b0 YX11_cover 7 36 [(0, .ref (b0 + x0)), (2, .int x2), (4, .int y4)] [] hh (self36 (y4, hh))) : Zr zi b0 YX11_cover 7 77 [(0, .ref (b0 + x0)), (2, .int x2), (4, .int x4)] [.int t0, .int t1, .ref (b0 + t2)] h (bX11_cover_77 self36 x0 x2 x4 t0 t1 t2 h) := by
  unfold bX11_cover_77
  refine z_iastore 78 dX11_cover_77 rfl (fun h1 _ => ?_)
  refine z_iinc (lv2 := [(4, .int (x4 + (nI 1))), (0, .ref (b0 + x0)), (2, .int x2)]) (nI 1) 81 2 dX11_cover_78 rfl rfl zki_1 (Nat.le_of_ble_eq_true rfl) rfl ?_
  refine z_goto 36 dX11_cover_81 (by decide) ?_
  exact z_sub [1, 2, 0] rfl (hself36 (x4 + (nI 1)) h1)
def kX11_cover_36 (x0 : Nat) (x2 : Int32) (self36 : Int32 × ZH → Option (Int32 × ZH)) (x4 : Int32) (h : ZH) : Option (Int32 × ZH) :=
  (gI h 11 x0 30).bind fun v1 =>
  if ((nI 4) * v1) ≤ x4 then ((fX11_replace x0 x2 h).bind fun h3 =>
  (gI h3 11 x0 30).bind fun v4 =>
  some (v4, h3)) else
  ((gR h 11 x0 1).bind fun v5 =>
  (gR h 11 x0 35).bind fun v6 =>
  (lI h 14 v6 x4).bind fun v7 =>
  if v7 = (-1 : Int32) then (bX11_cover_77 self36 x0 x2 x4 (nI 0) x4 v5 h) else
  ((gR h 11 x0 35).bind fun v9 =>
  (lI h 14 v9 x4).bind fun v10 =>
  bX11_cover_77 self36 x0 x2 x4 (jshl (nI 1) v10) x4 v5 h))
def lX11_cover_36 (x0 : Nat) (x2 : Int32) : (Int32 × ZH → Option (Int32 × ZH)) → Int32 × ZH → Option (Int32 × ZH) := fun self s => kX11_cover_36 x0 x2 self s.1 s.2
theorem KX11_cover_36 (b0 : Nat) (x0 : Nat) (x2 : Int32) (self36 : Int32 × ZH → Option (Int32 × ZH)) (hself36 : ∀ (y4 : Int32) (hh : ZH), Zr zi b0 YX11_cover 7 36 [(0, .ref (b0 + x0)), (2, .int x2), (4, .int y4)] [] hh (self36 (y4, hh))) (x4 : Int32) (h : ZH) : Zr zi b0 YX11_cover 7 36 [(0, .ref (b0 + x0)), (2, .int x2), (4, .int x4)] [] h (kX11_cover_36 x0 x2 self36 x4 h) := by
  unfold kX11_cover_36
  refine z_iload 38 2 dX11_cover_36 rfl rfl ?_
  refine z_iconst (nI 4) 39 zki_4 dX11_cover_38 rfl ?_
  refine z_aload_n 40 0 dX11_cover_39 rfl rfl ?_
  refine z_getI 43 zC11 (Nat.le_of_ble_eq_true rfl) rfl w_1047 dX11_cover_40 rfl (fun v1 _ => ?_)
  refine z_imul 44 dX11_cover_43 rfl ?_
  refine z_icmp_ge 84 47 dX11_cover_44 (by decide) rfl (fun c2 => ?_) (fun c2 => ?_)
  · refine z_aload_n 85 0 dX11_cover_84 rfl rfl ?_
    refine z_iload_n 86 1 dX11_cover_85 rfl rfl ?_
    refine z_callVv 89 (mX11_replace b0 x0 x2 h) zyX11_replace rfl w_1170 (ci := 11) rfl (Nat.le_of_ble_eq_true rfl) (fun _ e9 => kX11_replace e9) wm_yX11_replace ws_yX11_replace (Nat.le_of_ble_eq_true rfl) rfl (Nat.le_of_ble_eq_true rfl) dX11_cover_86 rfl (fun h3 => ?_)
    refine z_aload_n 90 0 dX11_cover_89 rfl rfl ?_
    refine z_getI 93 zC11 (Nat.le_of_ble_eq_true rfl) rfl w_1047 dX11_cover_90 rfl (fun v4 _ => ?_)
    exact z_ireturn dX11_cover_93 rfl
  · refine z_aload_n 48 0 dX11_cover_47 rfl rfl ?_
    refine z_getR 51 zC11 (Nat.le_of_ble_eq_true rfl) rfl w_1018 dX11_cover_48 rfl (fun v5 _ => ?_)
    refine z_iload 53 2 dX11_cover_51 rfl rfl ?_
    refine z_aload_n 54 0 dX11_cover_53 rfl rfl ?_
    refine z_getR 57 zC11 (Nat.le_of_ble_eq_true rfl) rfl w_1052 dX11_cover_54 rfl (fun v6 _ => ?_)
    refine z_iload 59 2 dX11_cover_57 rfl rfl ?_
    refine z_iaload 60 dX11_cover_59 rfl (fun v7 _ => ?_)
    refine z_iconst (-1 : Int32) 61 zki_m1 dX11_cover_60 rfl ?_
    refine z_icmp_ne 68 64 dX11_cover_61 (by decide) rfl (fun c8 => ?_) (fun c8 => ?_)
    · refine z_iconst (nI 1) 69 zki_1 dX11_cover_68 rfl ?_
      refine z_aload_n 70 0 dX11_cover_69 rfl rfl ?_
      refine z_getR 73 zC11 (Nat.le_of_ble_eq_true rfl) rfl w_1052 dX11_cover_70 rfl (fun v9 _ => ?_)
      refine z_iload 75 2 dX11_cover_73 rfl rfl ?_
      refine z_iaload 76 dX11_cover_75 rfl (fun v10 _ => ?_)
      refine z_ishl 77 dX11_cover_76 rfl ?_
      exact z_sub [0, 1, 2] rfl (BX11_cover_77 b0 self36 x0 x2 x4 (jshl (nI 1) v10) x4 v5 h hself36)
    · refine z_iconst (nI 0) 65 zki_0 dX11_cover_64 rfl ?_
      refine z_goto 77 dX11_cover_65 (by decide) ?_
      exact z_sub [0, 1, 2] rfl (BX11_cover_77 b0 self36 x0 x2 x4 (nI 0) x4 v5 h hself36)
theorem BX11_cover_36 (b0 : Nat) (x0 : Nat) (x2 : Int32) (n : Nat) (x4 : Int32) (h : ZH) : Zr zi b0 YX11_cover 7 36 [(0, .ref (b0 + x0)), (2, .int x2), (4, .int x4)] [] h (zloop (lX11_cover_36 x0 x2) n (x4, h)) :=
  zloop_Zr (fun s => [(0, .ref (b0 + x0)), (2, .int x2), (4, .int s.1)]) (fun _ => []) (fun s => s.2) (lX11_cover_36 x0 x2) (fun self hs s => KX11_cover_36 b0 x0 x2 self (fun y4 hh => hs (y4, hh)) s.1 s.2) n (x4, h)
def bX11_cover_14 (h : ZH) : Option (Int32 × ZH) :=
  some ((-2 : Int32), h)
theorem BX11_cover_14 (b0 : Nat) (h : ZH) : Zr zi b0 YX11_cover 7 14 [] [] h (bX11_cover_14 h) := by
  unfold bX11_cover_14
  refine z_bipush (-2 : Int32) 16 zkb_m2 dX11_cover_14 rfl ?_
  exact z_ireturn dX11_cover_16 rfl
def fX11_cover (x0 : Nat) (x1 : Int32) (x2 : Int32) (h : ZH) : Option (Int32 × ZH) :=
  if x0 < zn h ∧ zK h x0 = 11 then ((fX11_isSlot x1 h).bind fun q1 =>
  if q1.1 = 0 then (bX11_cover_14 q1.2) else
  ((fX11_isSlot x2 q1.2).bind fun q3 =>
  if q3.1 = 0 then (bX11_cover_14 q3.2) else
  ((fX11_findCover x0 x1 q3.2).bind fun q5 =>
  if q5.1 = 0 then ((fX11_clearMade x0 q5.2).bind fun h7 =>
  zloop (lX11_cover_36 x0 x2) zfu ((nI 0), h7)) else
  (some (q5.1, q5.2))))) else none
theorem kX11_cover {x0 : Nat} {x1 : Int32} {x2 : Int32} {h : ZH} {x : Int32 × ZH} (e : fX11_cover x0 x1 x2 h = some x) : x0 < zn h ∧ zK h x0 = 11 := by
  unfold fX11_cover at e
  exact zguard e
theorem mX11_cover (b0 : Nat) (x0 : Nat) (x1 : Int32) (x2 : Int32) (h : ZH) : ZM zi b0 YX11_cover 7 [.ref (b0 + x0), .int x1, .int x2] h (fX11_cover x0 x1 x2 h) := by
  unfold fX11_cover
  refine ZM.of (by decide) rfl (Nat.le_of_ble_eq_true rfl) (fun _ => trivial) ?_
  refine z_sub (lv2 := [(0, .ref (b0 + x0)), (1, .int x1), (2, .int x2)]) [0, 1, 2] rfl ?_
  refine z_guard (fun _ => ?_)
  refine z_iload_n 1 1 dX11_cover_0 rfl rfl ?_
  refine z_callSi 4 (mX11_isSlot b0 x1 h) zyX11_isSlot rfl w_1154 wt_yX11_isSlot (Nat.le_of_ble_eq_true rfl) rfl (Nat.le_of_ble_eq_true rfl) dX11_cover_1 rfl (fun q1 => ?_)
  refine z_if_eq 14 7 dX11_cover_4 (by decide) rfl (fun c2 => ?_) (fun c2 => ?_)
  · exact z_sub [] rfl (BX11_cover_14 b0 q1.2 )
  · refine z_iload_n 8 2 dX11_cover_7 rfl rfl ?_
    refine z_callSi 11 (mX11_isSlot b0 x2 q1.2) zyX11_isSlot rfl w_1154 wt_yX11_isSlot (Nat.le_of_ble_eq_true rfl) rfl (Nat.le_of_ble_eq_true rfl) dX11_cover_8 rfl (fun q3 => ?_)
    refine z_if_ne 17 14 dX11_cover_11 (by decide) rfl (fun c4 => ?_) (fun c4 => ?_)
    · refine z_aload_n 18 0 dX11_cover_17 rfl rfl ?_
      refine z_iload_n 19 1 dX11_cover_18 rfl rfl ?_
      refine z_callVi 22 (mX11_findCover b0 x0 x1 q3.2) zyX11_findCover rfl w_1356 (ci := 11) rfl (Nat.le_of_ble_eq_true rfl) (fun _ e9 => kX11_findCover e9) wm_yX11_findCover ws_yX11_findCover (Nat.le_of_ble_eq_true rfl) rfl (Nat.le_of_ble_eq_true rfl) dX11_cover_19 rfl (fun q5 => ?_)
      refine z_istore_n (lv2 := [(3, .int q5.1), (0, .ref (b0 + x0)), (1, .int x1), (2, .int x2)]) 23 dX11_cover_22 rfl (Nat.le_of_ble_eq_true rfl) rfl ?_
      refine z_iload_n 24 0 dX11_cover_23 rfl rfl ?_
      refine z_if_eq 29 27 dX11_cover_24 (by decide) rfl (fun c6 => ?_) (fun c6 => ?_)
      · refine z_aload_n 30 1 dX11_cover_29 rfl rfl ?_
        refine z_callVv 33 (mX11_clearMade b0 x0 q5.2) zyX11_clearMade rfl w_1203 (ci := 11) rfl (Nat.le_of_ble_eq_true rfl) (fun _ e9 => kX11_clearMade e9) wm_yX11_clearMade ws_yX11_clearMade (Nat.le_of_ble_eq_true rfl) rfl (Nat.le_of_ble_eq_true rfl) dX11_cover_30 rfl (fun h7 => ?_)
        refine z_iconst (nI 0) 34 zki_0 dX11_cover_33 rfl ?_
        refine z_istore (lv2 := [(4, .int (nI 0)), (3, .int q5.1), (0, .ref (b0 + x0)), (1, .int x1), (2, .int x2)]) 36 dX11_cover_34 rfl (Nat.le_of_ble_eq_true rfl) rfl ?_
        exact z_sub [2, 4, 0] rfl (BX11_cover_36 b0 x0 x2 zfu (nI 0) h7)
      · refine z_iload_n 28 0 dX11_cover_27 rfl rfl ?_
        exact z_ireturn dX11_cover_28 rfl
    · exact z_sub [] rfl (BX11_cover_14 b0 q3.2 )
-- X11_writeReset
def fX11_writeReset (x0 : Nat) (x1 : Int32) (h : ZH) : Option (Int32 × ZH) :=
  if x0 < zn h ∧ zK h x0 = 11 then ((fX11_isSlot x1 h).bind fun q1 =>
  if q1.1 = 0 then (some ((-2 : Int32), q1.2)) else
  ((fX11_findMembers x0 x1 q1.2).bind fun q3 =>
  if q3.1 = 0 then ((fX11_findReset x0 q3.2).bind fun q5 =>
  (fX11_writeOut x0 q5.2).bind fun q6 =>
  some (q6.1, q6.2)) else
  (some (q3.1, q3.2)))) else none
theorem kX11_writeReset {x0 : Nat} {x1 : Int32} {h : ZH} {x : Int32 × ZH} (e : fX11_writeReset x0 x1 h = some x) : x0 < zn h ∧ zK h x0 = 11 := by
  unfold fX11_writeReset at e
  exact zguard e
theorem mX11_writeReset (b0 : Nat) (x0 : Nat) (x1 : Int32) (h : ZH) : ZM zi b0 YX11_writeReset 6 [.ref (b0 + x0), .int x1] h (fX11_writeReset x0 x1 h) := by
  unfold fX11_writeReset
  refine ZM.of (by decide) rfl (Nat.le_of_ble_eq_true rfl) (fun _ => trivial) ?_
  refine z_sub (lv2 := [(0, .ref (b0 + x0)), (1, .int x1)]) [0, 1] rfl ?_
  refine z_guard (fun _ => ?_)
  refine z_iload_n 1 1 dX11_writeReset_0 rfl rfl ?_
  refine z_callSi 4 (mX11_isSlot b0 x1 h) zyX11_isSlot rfl w_1154 wt_yX11_isSlot (Nat.le_of_ble_eq_true rfl) rfl (Nat.le_of_ble_eq_true rfl) dX11_writeReset_1 rfl (fun q1 => ?_)
  refine z_if_ne 10 7 dX11_writeReset_4 (by decide) rfl (fun c2 => ?_) (fun c2 => ?_)
  · refine z_aload_n 11 0 dX11_writeReset_10 rfl rfl ?_
    refine z_iload_n 12 1 dX11_writeReset_11 rfl rfl ?_
    refine z_callVi 15 (mX11_findMembers b0 x0 x1 q1.2) zyX11_findMembers rfl w_1360 (ci := 11) rfl (Nat.le_of_ble_eq_true rfl) (fun _ e9 => kX11_findMembers e9) wm_yX11_findMembers ws_yX11_findMembers (Nat.le_of_ble_eq_true rfl) rfl (Nat.le_of_ble_eq_true rfl) dX11_writeReset_12 rfl (fun q3 => ?_)
    refine z_istore_n (lv2 := [(2, .int q3.1), (0, .ref (b0 + x0)), (1, .int x1)]) 16 dX11_writeReset_15 rfl (Nat.le_of_ble_eq_true rfl) rfl ?_
    refine z_iload_n 17 0 dX11_writeReset_16 rfl rfl ?_
    refine z_if_eq 22 20 dX11_writeReset_17 (by decide) rfl (fun c4 => ?_) (fun c4 => ?_)
    · refine z_aload_n 23 1 dX11_writeReset_22 rfl rfl ?_
      refine z_callVi 26 (mX11_findReset b0 x0 q3.2) zyX11_findReset rfl w_1396 (ci := 11) rfl (Nat.le_of_ble_eq_true rfl) (fun _ e9 => kX11_findReset e9) wm_yX11_findReset ws_yX11_findReset (Nat.le_of_ble_eq_true rfl) rfl (Nat.le_of_ble_eq_true rfl) dX11_writeReset_23 rfl (fun q5 => ?_)
      refine z_pop 27 rfl dX11_writeReset_26 rfl ?_
      refine z_aload_n 28 1 dX11_writeReset_27 rfl rfl ?_
      refine z_callVi 31 (mX11_writeOut b0 x0 q5.2) zyX11_writeOut rfl w_1295 (ci := 11) rfl (Nat.le_of_ble_eq_true rfl) (fun _ e9 => kX11_writeOut e9) wm_yX11_writeOut ws_yX11_writeOut (Nat.le_of_ble_eq_true rfl) rfl (Nat.le_of_ble_eq_true rfl) dX11_writeReset_28 rfl (fun q6 => ?_)
      exact z_ireturn dX11_writeReset_31 rfl
    · refine z_iload_n 21 0 dX11_writeReset_20 rfl rfl ?_
      exact z_ireturn dX11_writeReset_21 rfl
  · refine z_bipush (-2 : Int32) 9 zkb_m2 dX11_writeReset_7 rfl ?_
    exact z_ireturn dX11_writeReset_9 rfl
-- X11_isSingle
def kX11_isSingle_2 (x0 : Nat) (x1 : Int32) (self2 : Int32 × ZH → Option (Int32 × ZH)) (x2 : Int32) (h : ZH) : Option (Int32 × ZH) :=
  if x1 ≤ x2 then (if (nI 1) = 0 ∨ (nI 1) = 1 then some ((nI 1), h) else none) else
  ((gR h 11 x0 27).bind fun v2 =>
  (lI h 14 v2 x2).bind fun v3 =>
  (fJ6_bitCount_0f7a4 v3 h).bind fun q4 =>
  if q4.1 ≤ (nI 1) then (self2 ((x2 + (nI 1)), q4.2)) else
  (if (nI 0) = 0 ∨ (nI 0) = 1 then some ((nI 0), q4.2) else none))
def lX11_isSingle_2 (x0 : Nat) (x1 : Int32) : (Int32 × ZH → Option (Int32 × ZH)) → Int32 × ZH → Option (Int32 × ZH) := fun self s => kX11_isSingle_2 x0 x1 self s.1 s.2
theorem KX11_isSingle_2 (b0 : Nat) (x0 : Nat) (x1 : Int32) (self2 : Int32 × ZH → Option (Int32 × ZH)) (hself2 : ∀ (y2 : Int32) (hh : ZH), Zr zi b0 YX11_isSingle 2 2 [(0, .ref (b0 + x0)), (1, .int x1), (2, .int y2)] [] hh (self2 (y2, hh))) (x2 : Int32) (h : ZH) : Zr zi b0 YX11_isSingle 2 2 [(0, .ref (b0 + x0)), (1, .int x1), (2, .int x2)] [] h (kX11_isSingle_2 x0 x1 self2 x2 h) := by
  unfold kX11_isSingle_2
  refine z_iload_n 3 2 dX11_isSingle_2 rfl rfl ?_
  refine z_iload_n 4 1 dX11_isSingle_3 rfl rfl ?_
  refine z_icmp_ge 28 7 dX11_isSingle_4 (by decide) rfl (fun c1 => ?_) (fun c1 => ?_)
  · refine z_iconst (nI 1) 29 zki_1 dX11_isSingle_28 rfl ?_
    exact z_zreturn dX11_isSingle_29 rfl
  · refine z_aload_n 8 0 dX11_isSingle_7 rfl rfl ?_
    refine z_getR 11 zC11 (Nat.le_of_ble_eq_true rfl) rfl w_1044 dX11_isSingle_8 rfl (fun v2 _ => ?_)
    refine z_iload_n 12 2 dX11_isSingle_11 rfl rfl ?_
    refine z_iaload 13 dX11_isSingle_12 rfl (fun v3 _ => ?_)
    refine z_callSi 16 (mJ6_bitCount_0f7a4 b0 v3 h) zyJ6_bitCount_0f7a4 rfl w_1178 wt_yJ6_bitCount_0f7a4 (Nat.le_of_ble_eq_true rfl) rfl (Nat.le_of_ble_eq_true rfl) dX11_isSingle_13 rfl (fun q4 => ?_)
    refine z_iconst (nI 1) 17 zki_1 dX11_isSingle_16 rfl ?_
    refine z_icmp_le 22 20 dX11_isSingle_17 (by decide) rfl (fun c5 => ?_) (fun c5 => ?_)
    · refine z_iinc (lv2 := [(2, .int (x2 + (nI 1))), (0, .ref (b0 + x0)), (1, .int x1)]) (nI 1) 25 2 dX11_isSingle_22 rfl rfl zki_1 (Nat.le_of_ble_eq_true rfl) rfl ?_
      refine z_goto 2 dX11_isSingle_25 (by decide) ?_
      exact z_sub [1, 2, 0] rfl (hself2 (x2 + (nI 1)) q4.2)
    · refine z_iconst (nI 0) 21 zki_0 dX11_isSingle_20 rfl ?_
      exact z_zreturn dX11_isSingle_21 rfl
theorem BX11_isSingle_2 (b0 : Nat) (x0 : Nat) (x1 : Int32) (n : Nat) (x2 : Int32) (h : ZH) : Zr zi b0 YX11_isSingle 2 2 [(0, .ref (b0 + x0)), (1, .int x1), (2, .int x2)] [] h (zloop (lX11_isSingle_2 x0 x1) n (x2, h)) :=
  zloop_Zr (fun s => [(0, .ref (b0 + x0)), (1, .int x1), (2, .int s.1)]) (fun _ => []) (fun s => s.2) (lX11_isSingle_2 x0 x1) (fun self hs s => KX11_isSingle_2 b0 x0 x1 self (fun y2 hh => hs (y2, hh)) s.1 s.2) n (x2, h)
def fX11_isSingle (x0 : Nat) (x1 : Int32) (h : ZH) : Option (Int32 × ZH) :=
  if x0 < zn h ∧ zK h x0 = 11 then (zloop (lX11_isSingle_2 x0 x1) zfu ((nI 0), h)) else none
theorem kX11_isSingle {x0 : Nat} {x1 : Int32} {h : ZH} {x : Int32 × ZH} (e : fX11_isSingle x0 x1 h = some x) : x0 < zn h ∧ zK h x0 = 11 := by
  unfold fX11_isSingle at e
  exact zguard e
theorem mX11_isSingle (b0 : Nat) (x0 : Nat) (x1 : Int32) (h : ZH) : ZM zi b0 YX11_isSingle 2 [.ref (b0 + x0), .int x1] h (fX11_isSingle x0 x1 h) := by
  unfold fX11_isSingle
  refine ZM.of (by decide) rfl (Nat.le_of_ble_eq_true rfl) (fun _ => trivial) ?_
  refine z_sub (lv2 := [(0, .ref (b0 + x0)), (1, .int x1)]) [0, 1] rfl ?_
  refine z_guard (fun _ => ?_)
  refine z_iconst (nI 0) 1 zki_0 dX11_isSingle_0 rfl ?_
  refine z_istore_n (lv2 := [(2, .int (nI 0)), (0, .ref (b0 + x0)), (1, .int x1)]) 2 dX11_isSingle_1 rfl (Nat.le_of_ble_eq_true rfl) rfl ?_
  exact z_sub [1, 2, 0] rfl (BX11_isSingle_2 b0 x0 x1 zfu (nI 0) h)
-- X11_memory
def bX11_memory_144 (self40 : Int32 × ZH → Option (Int32 × ZH)) (self102 : Int32 × ZH → Option (Int32 × ZH)) (self112 : Int32 × ZH → Option (Int32 × ZH)) (x0 : Nat) (x3 : Int32) (x4 : Int32) (x5 : Int32) (x6 : Int32) (h : ZH) : Option (Int32 × ZH) :=
  self112 ((x6 + (nI 1)), h)
theorem BX11_memory_144 (b0 : Nat) (self40 : Int32 × ZH → Option (Int32 × ZH)) (self102 : Int32 × ZH → Option (Int32 × ZH)) (self112 : Int32 × ZH → Option (Int32 × ZH)) (x0 : Nat) (x3 : Int32) (x4 : Int32) (x5 : Int32) (x6 : Int32) (h : ZH) (hself40 : ∀ (y3 : Int32) (hh : ZH), Zr zi b0 YX11_memory 6 40 [(0, .ref (b0 + x0)), (3, .int y3)] [] hh (self40 (y3, hh))) (hself102 : ∀ (y5 : Int32) (hh : ZH), Zr zi b0 YX11_memory 6 102 [(0, .ref (b0 + x0)), (3, .int x3), (4, .int x4), (5, .int y5)] [] hh (self102 (y5, hh))) (hself112 : ∀ (y6 : Int32) (hh : ZH), Zr zi b0 YX11_memory 6 112 [(0, .ref (b0 + x0)), (3, .int x3), (4, .int x4), (5, .int x5), (6, .int y6)] [] hh (self112 (y6, hh))) : Zr zi b0 YX11_memory 6 144 [(0, .ref (b0 + x0)), (3, .int x3), (4, .int x4), (5, .int x5), (6, .int x6)] [] h (bX11_memory_144 self40 self102 self112 x0 x3 x4 x5 x6 h) := by
  unfold bX11_memory_144
  refine z_iinc (lv2 := [(6, .int (x6 + (nI 1))), (0, .ref (b0 + x0)), (3, .int x3), (4, .int x4), (5, .int x5)]) (nI 1) 147 4 dX11_memory_144 rfl rfl zki_1 (Nat.le_of_ble_eq_true rfl) rfl ?_
  refine z_goto 112 dX11_memory_147 (by decide) ?_
  exact z_sub [1, 2, 3, 4, 0] rfl (hself112 (x6 + (nI 1)) h)
def kX11_memory_112 (self40 : Int32 × ZH → Option (Int32 × ZH)) (self102 : Int32 × ZH → Option (Int32 × ZH)) (x0 : Nat) (x3 : Int32) (x4 : Int32) (x5 : Int32) (self112 : Int32 × ZH → Option (Int32 × ZH)) (x6 : Int32) (h : ZH) : Option (Int32 × ZH) :=
  if (nI 4) ≤ x6 then (self102 ((x5 + (nI 1)), h)) else
  ((gR h 11 x0 25).bind fun v2 =>
  (lI h 14 v2 x5).bind fun v3 =>
  (fX11_led x0 v3 x6 h).bind fun q4 =>
  if q4.1 = 0 then (bX11_memory_144 self40 self102 self112 x0 x3 x4 x5 x6 q4.2) else
  ((fX11_see x0 q4.1 q4.2).bind fun h6 =>
  bX11_memory_144 self40 self102 self112 x0 x3 x4 x5 x6 h6))
def lX11_memory_112 (self40 : Int32 × ZH → Option (Int32 × ZH)) (self102 : Int32 × ZH → Option (Int32 × ZH)) (x0 : Nat) (x3 : Int32) (x4 : Int32) (x5 : Int32) : (Int32 × ZH → Option (Int32 × ZH)) → Int32 × ZH → Option (Int32 × ZH) := fun self s => kX11_memory_112 self40 self102 x0 x3 x4 x5 self s.1 s.2
theorem KX11_memory_112 (b0 : Nat) (self40 : Int32 × ZH → Option (Int32 × ZH)) (self102 : Int32 × ZH → Option (Int32 × ZH)) (x0 : Nat) (x3 : Int32) (x4 : Int32) (x5 : Int32) (hself40 : ∀ (y3 : Int32) (hh : ZH), Zr zi b0 YX11_memory 6 40 [(0, .ref (b0 + x0)), (3, .int y3)] [] hh (self40 (y3, hh))) (hself102 : ∀ (y5 : Int32) (hh : ZH), Zr zi b0 YX11_memory 6 102 [(0, .ref (b0 + x0)), (3, .int x3), (4, .int x4), (5, .int y5)] [] hh (self102 (y5, hh))) (self112 : Int32 × ZH → Option (Int32 × ZH)) (hself112 : ∀ (y6 : Int32) (hh : ZH), Zr zi b0 YX11_memory 6 112 [(0, .ref (b0 + x0)), (3, .int x3), (4, .int x4), (5, .int x5), (6, .int y6)] [] hh (self112 (y6, hh))) (x6 : Int32) (h : ZH) : Zr zi b0 YX11_memory 6 112 [(0, .ref (b0 + x0)), (3, .int x3), (4, .int x4), (5, .int x5), (6, .int x6)] [] h (kX11_memory_112 self40 self102 x0 x3 x4 x5 self112 x6 h) := by
  unfold kX11_memory_112
  refine z_iload 114 4 dX11_memory_112 rfl rfl ?_
  refine z_iconst (nI 4) 115 zki_4 dX11_memory_114 rfl ?_
  refine z_icmp_ge 150 118 dX11_memory_115 (by decide) rfl (fun c1 => ?_) (fun c1 => ?_)
  · refine z_iinc (lv2 := [(5, .int (x5 + (nI 1))), (0, .ref (b0 + x0)), (3, .int x3), (4, .int x4), (6, .int x6)]) (nI 1) 153 3 dX11_memory_150 rfl rfl zki_1 (Nat.le_of_ble_eq_true rfl) rfl ?_
    refine z_goto 102 dX11_memory_153 (by decide) ?_
    exact z_sub [1, 2, 3, 0] rfl (hself102 (x5 + (nI 1)) h)
  · refine z_aload_n 119 0 dX11_memory_118 rfl rfl ?_
    refine z_aload_n 120 0 dX11_memory_119 rfl rfl ?_
    refine z_getR 123 zC11 (Nat.le_of_ble_eq_true rfl) rfl w_1042 dX11_memory_120 rfl (fun v2 _ => ?_)
    refine z_iload 125 3 dX11_memory_123 rfl rfl ?_
    refine z_iaload 126 dX11_memory_125 rfl (fun v3 _ => ?_)
    refine z_iload 128 4 dX11_memory_126 rfl rfl ?_
    refine z_callVi 131 (mX11_led b0 x0 v3 x6 h) zyX11_led rfl w_1400 (ci := 11) rfl (Nat.le_of_ble_eq_true rfl) (fun _ e9 => kX11_led e9) wm_yX11_led ws_yX11_led (Nat.le_of_ble_eq_true rfl) rfl (Nat.le_of_ble_eq_true rfl) dX11_memory_128 rfl (fun q4 => ?_)
    refine z_istore (lv2 := [(7, .int q4.1), (0, .ref (b0 + x0)), (3, .int x3), (4, .int x4), (5, .int x5), (6, .int x6)]) 133 dX11_memory_131 rfl (Nat.le_of_ble_eq_true rfl) rfl ?_
    refine z_iload 135 0 dX11_memory_133 rfl rfl ?_
    refine z_if_eq 144 138 dX11_memory_135 (by decide) rfl (fun c5 => ?_) (fun c5 => ?_)
    · exact z_sub [1, 2, 3, 4, 5] rfl (BX11_memory_144 b0 self40 self102 self112 x0 x3 x4 x5 x6 q4.2 hself40 hself102 hself112)
    · refine z_aload_n 139 1 dX11_memory_138 rfl rfl ?_
      refine z_iload 141 0 dX11_memory_139 rfl rfl ?_
      refine z_callVv 144 (mX11_see b0 x0 q4.1 q4.2) zyX11_see rfl w_1372 (ci := 11) rfl (Nat.le_of_ble_eq_true rfl) (fun _ e9 => kX11_see e9) wm_yX11_see ws_yX11_see (Nat.le_of_ble_eq_true rfl) rfl (Nat.le_of_ble_eq_true rfl) dX11_memory_141 rfl (fun h6 => ?_)
      exact z_sub [1, 2, 3, 4, 5] rfl (BX11_memory_144 b0 self40 self102 self112 x0 x3 x4 x5 x6 h6 hself40 hself102 hself112)
theorem BX11_memory_112 (b0 : Nat) (self40 : Int32 × ZH → Option (Int32 × ZH)) (self102 : Int32 × ZH → Option (Int32 × ZH)) (x0 : Nat) (x3 : Int32) (x4 : Int32) (x5 : Int32) (hself40 : ∀ (y3 : Int32) (hh : ZH), Zr zi b0 YX11_memory 6 40 [(0, .ref (b0 + x0)), (3, .int y3)] [] hh (self40 (y3, hh))) (hself102 : ∀ (y5 : Int32) (hh : ZH), Zr zi b0 YX11_memory 6 102 [(0, .ref (b0 + x0)), (3, .int x3), (4, .int x4), (5, .int y5)] [] hh (self102 (y5, hh))) (n : Nat) (x6 : Int32) (h : ZH) : Zr zi b0 YX11_memory 6 112 [(0, .ref (b0 + x0)), (3, .int x3), (4, .int x4), (5, .int x5), (6, .int x6)] [] h (zloop (lX11_memory_112 self40 self102 x0 x3 x4 x5) n (x6, h)) :=
  zloop_Zr (fun s => [(0, .ref (b0 + x0)), (3, .int x3), (4, .int x4), (5, .int x5), (6, .int s.1)]) (fun _ => []) (fun s => s.2) (lX11_memory_112 self40 self102 x0 x3 x4 x5) (fun self hs s => KX11_memory_112 b0 self40 self102 x0 x3 x4 x5 hself40 hself102 self (fun y6 hh => hs (y6, hh)) s.1 s.2) n (x6, h)
def kX11_memory_102 (self40 : Int32 × ZH → Option (Int32 × ZH)) (x0 : Nat) (x3 : Int32) (x4 : Int32) (self102 : Int32 × ZH → Option (Int32 × ZH)) (x5 : Int32) (h : ZH) : Option (Int32 × ZH) :=
  if x4 ≤ x5 then (self40 ((x3 + (nI 1)), h)) else
  (zloop (lX11_memory_112 self40 self102 x0 x3 x4 x5) zfu ((nI 0), h))
def lX11_memory_102 (self40 : Int32 × ZH → Option (Int32 × ZH)) (x0 : Nat) (x3 : Int32) (x4 : Int32) : (Int32 × ZH → Option (Int32 × ZH)) → Int32 × ZH → Option (Int32 × ZH) := fun self s => kX11_memory_102 self40 x0 x3 x4 self s.1 s.2
theorem KX11_memory_102 (b0 : Nat) (self40 : Int32 × ZH → Option (Int32 × ZH)) (x0 : Nat) (x3 : Int32) (x4 : Int32) (hself40 : ∀ (y3 : Int32) (hh : ZH), Zr zi b0 YX11_memory 6 40 [(0, .ref (b0 + x0)), (3, .int y3)] [] hh (self40 (y3, hh))) (self102 : Int32 × ZH → Option (Int32 × ZH)) (hself102 : ∀ (y5 : Int32) (hh : ZH), Zr zi b0 YX11_memory 6 102 [(0, .ref (b0 + x0)), (3, .int x3), (4, .int x4), (5, .int y5)] [] hh (self102 (y5, hh))) (x5 : Int32) (h : ZH) : Zr zi b0 YX11_memory 6 102 [(0, .ref (b0 + x0)), (3, .int x3), (4, .int x4), (5, .int x5)] [] h (kX11_memory_102 self40 x0 x3 x4 self102 x5 h) := by
  unfold kX11_memory_102
  refine z_iload 104 3 dX11_memory_102 rfl rfl ?_
  refine z_iload 106 2 dX11_memory_104 rfl rfl ?_
  refine z_icmp_ge 156 109 dX11_memory_106 (by decide) rfl (fun c1 => ?_) (fun c1 => ?_)
  · refine z_iinc (lv2 := [(3, .int (x3 + (nI 1))), (0, .ref (b0 + x0)), (4, .int x4), (5, .int x5)]) (nI 1) 159 1 dX11_memory_156 rfl rfl zki_1 (Nat.le_of_ble_eq_true rfl) rfl ?_
    refine z_goto 40 dX11_memory_159 (by decide) ?_
    exact z_sub [1, 0] rfl (hself40 (x3 + (nI 1)) h)
  · refine z_iconst (nI 0) 110 zki_0 dX11_memory_109 rfl ?_
    refine z_istore (lv2 := [(6, .int (nI 0)), (0, .ref (b0 + x0)), (3, .int x3), (4, .int x4), (5, .int x5)]) 112 dX11_memory_110 rfl (Nat.le_of_ble_eq_true rfl) rfl ?_
    exact z_sub [1, 2, 3, 4, 0] rfl (BX11_memory_112 b0 self40 self102 x0 x3 x4 x5 hself40 hself102 zfu (nI 0) h)
theorem BX11_memory_102 (b0 : Nat) (self40 : Int32 × ZH → Option (Int32 × ZH)) (x0 : Nat) (x3 : Int32) (x4 : Int32) (hself40 : ∀ (y3 : Int32) (hh : ZH), Zr zi b0 YX11_memory 6 40 [(0, .ref (b0 + x0)), (3, .int y3)] [] hh (self40 (y3, hh))) (n : Nat) (x5 : Int32) (h : ZH) : Zr zi b0 YX11_memory 6 102 [(0, .ref (b0 + x0)), (3, .int x3), (4, .int x4), (5, .int x5)] [] h (zloop (lX11_memory_102 self40 x0 x3 x4) n (x5, h)) :=
  zloop_Zr (fun s => [(0, .ref (b0 + x0)), (3, .int x3), (4, .int x4), (5, .int s.1)]) (fun _ => []) (fun s => s.2) (lX11_memory_102 self40 x0 x3 x4) (fun self hs s => KX11_memory_102 b0 self40 x0 x3 x4 hself40 self (fun y5 hh => hs (y5, hh)) s.1 s.2) n (x5, h)
def kX11_memory_68 (self40 : Int32 × ZH → Option (Int32 × ZH)) (x0 : Nat) (x3 : Int32) (x4 : Int32) (self68 : Int32 × ZH → Option (Int32 × ZH)) (x5 : Int32) (h : ZH) : Option (Int32 × ZH) :=
  if x4 ≤ x5 then ((fX11_clearSeen x0 h).bind fun h2 =>
  zloop (lX11_memory_102 self40 x0 x3 x4) zfu ((nI 0), h2)) else
  ((gR h 11 x0 25).bind fun v3 =>
  (gR h 11 x0 27).bind fun v4 =>
  (lI h 14 v4 x5).bind fun v5 =>
  (sI h 14 v3 x5 v5).bind fun h6 =>
  self68 ((x5 + (nI 1)), h6))
def lX11_memory_68 (self40 : Int32 × ZH → Option (Int32 × ZH)) (x0 : Nat) (x3 : Int32) (x4 : Int32) : (Int32 × ZH → Option (Int32 × ZH)) → Int32 × ZH → Option (Int32 × ZH) := fun self s => kX11_memory_68 self40 x0 x3 x4 self s.1 s.2
theorem KX11_memory_68 (b0 : Nat) (self40 : Int32 × ZH → Option (Int32 × ZH)) (x0 : Nat) (x3 : Int32) (x4 : Int32) (hself40 : ∀ (y3 : Int32) (hh : ZH), Zr zi b0 YX11_memory 6 40 [(0, .ref (b0 + x0)), (3, .int y3)] [] hh (self40 (y3, hh))) (self68 : Int32 × ZH → Option (Int32 × ZH)) (hself68 : ∀ (y5 : Int32) (hh : ZH), Zr zi b0 YX11_memory 6 68 [(0, .ref (b0 + x0)), (3, .int x3), (4, .int x4), (5, .int y5)] [] hh (self68 (y5, hh))) (x5 : Int32) (h : ZH) : Zr zi b0 YX11_memory 6 68 [(0, .ref (b0 + x0)), (3, .int x3), (4, .int x4), (5, .int x5)] [] h (kX11_memory_68 self40 x0 x3 x4 self68 x5 h) := by
  unfold kX11_memory_68
  refine z_iload 70 3 dX11_memory_68 rfl rfl ?_
  refine z_iload 72 2 dX11_memory_70 rfl rfl ?_
  refine z_icmp_ge 95 75 dX11_memory_72 (by decide) rfl (fun c1 => ?_) (fun c1 => ?_)
  · refine z_aload_n 96 0 dX11_memory_95 rfl rfl ?_
    refine z_callVv 99 (mX11_clearSeen b0 x0 h) zyX11_clearSeen rfl w_1368 (ci := 11) rfl (Nat.le_of_ble_eq_true rfl) (fun _ e9 => kX11_clearSeen e9) wm_yX11_clearSeen ws_yX11_clearSeen (Nat.le_of_ble_eq_true rfl) rfl (Nat.le_of_ble_eq_true rfl) dX11_memory_96 rfl (fun h2 => ?_)
    refine z_iconst (nI 0) 100 zki_0 dX11_memory_99 rfl ?_
    refine z_istore (lv2 := [(5, .int (nI 0)), (0, .ref (b0 + x0)), (3, .int x3), (4, .int x4)]) 102 dX11_memory_100 rfl (Nat.le_of_ble_eq_true rfl) rfl ?_
    exact z_sub [1, 2, 3, 0] rfl (BX11_memory_102 b0 self40 x0 x3 x4 hself40 zfu (nI 0) h2)
  · refine z_aload_n 76 0 dX11_memory_75 rfl rfl ?_
    refine z_getR 79 zC11 (Nat.le_of_ble_eq_true rfl) rfl w_1042 dX11_memory_76 rfl (fun v3 _ => ?_)
    refine z_iload 81 3 dX11_memory_79 rfl rfl ?_
    refine z_aload_n 82 0 dX11_memory_81 rfl rfl ?_
    refine z_getR 85 zC11 (Nat.le_of_ble_eq_true rfl) rfl w_1044 dX11_memory_82 rfl (fun v4 _ => ?_)
    refine z_iload 87 3 dX11_memory_85 rfl rfl ?_
    refine z_iaload 88 dX11_memory_87 rfl (fun v5 _ => ?_)
    refine z_iastore 89 dX11_memory_88 rfl (fun h6 _ => ?_)
    refine z_iinc (lv2 := [(5, .int (x5 + (nI 1))), (0, .ref (b0 + x0)), (3, .int x3), (4, .int x4)]) (nI 1) 92 3 dX11_memory_89 rfl rfl zki_1 (Nat.le_of_ble_eq_true rfl) rfl ?_
    refine z_goto 68 dX11_memory_92 (by decide) ?_
    exact z_sub [1, 2, 3, 0] rfl (hself68 (x5 + (nI 1)) h6)
theorem BX11_memory_68 (b0 : Nat) (self40 : Int32 × ZH → Option (Int32 × ZH)) (x0 : Nat) (x3 : Int32) (x4 : Int32) (hself40 : ∀ (y3 : Int32) (hh : ZH), Zr zi b0 YX11_memory 6 40 [(0, .ref (b0 + x0)), (3, .int y3)] [] hh (self40 (y3, hh))) (n : Nat) (x5 : Int32) (h : ZH) : Zr zi b0 YX11_memory 6 68 [(0, .ref (b0 + x0)), (3, .int x3), (4, .int x4), (5, .int x5)] [] h (zloop (lX11_memory_68 self40 x0 x3 x4) n (x5, h)) :=
  zloop_Zr (fun s => [(0, .ref (b0 + x0)), (3, .int x3), (4, .int x4), (5, .int s.1)]) (fun _ => []) (fun s => s.2) (lX11_memory_68 self40 x0 x3 x4) (fun self hs s => KX11_memory_68 b0 self40 x0 x3 x4 hself40 self (fun y5 hh => hs (y5, hh)) s.1 s.2) n (x5, h)
def kX11_memory_40 (x0 : Nat) (self40 : Int32 × ZH → Option (Int32 × ZH)) (x3 : Int32) (h : ZH) : Option (Int32 × ZH) :=
  if (nI 30) < x3 then (some ((-1 : Int32), h)) else
  ((gI h 11 x0 28).bind fun v2 =>
  (fX11_isSingle x0 v2 h).bind fun q3 =>
  if q3.1 = 0 then ((gI q3.2 11 x0 28).bind fun v5 =>
  zloop (lX11_memory_68 self40 x0 x3 v5) zfu ((nI 0), q3.2)) else
  (some (x3, q3.2)))
def lX11_memory_40 (x0 : Nat) : (Int32 × ZH → Option (Int32 × ZH)) → Int32 × ZH → Option (Int32 × ZH) := fun self s => kX11_memory_40 x0 self s.1 s.2
theorem KX11_memory_40 (b0 : Nat) (x0 : Nat) (self40 : Int32 × ZH → Option (Int32 × ZH)) (hself40 : ∀ (y3 : Int32) (hh : ZH), Zr zi b0 YX11_memory 6 40 [(0, .ref (b0 + x0)), (3, .int y3)] [] hh (self40 (y3, hh))) (x3 : Int32) (h : ZH) : Zr zi b0 YX11_memory 6 40 [(0, .ref (b0 + x0)), (3, .int x3)] [] h (kX11_memory_40 x0 self40 x3 h) := by
  unfold kX11_memory_40
  refine z_iload_n 41 1 dX11_memory_40 rfl rfl ?_
  refine z_bipush (nI 30) 43 zkb_30 dX11_memory_41 rfl ?_
  refine z_icmp_gt 162 46 dX11_memory_43 (by decide) rfl (fun c1 => ?_) (fun c1 => ?_)
  · refine z_iconst (-1 : Int32) 163 zki_m1 dX11_memory_162 rfl ?_
    exact z_ireturn dX11_memory_163 rfl
  · refine z_aload_n 47 0 dX11_memory_46 rfl rfl ?_
    refine z_aload_n 48 0 dX11_memory_47 rfl rfl ?_
    refine z_getI 51 zC11 (Nat.le_of_ble_eq_true rfl) rfl w_1045 dX11_memory_48 rfl (fun v2 _ => ?_)
    refine z_callVi 54 (mX11_isSingle b0 x0 v2 h) zyX11_isSingle rfl w_1416 (ci := 11) rfl (Nat.le_of_ble_eq_true rfl) (fun _ e9 => kX11_isSingle e9) wm_yX11_isSingle ws_yX11_isSingle (Nat.le_of_ble_eq_true rfl) rfl (Nat.le_of_ble_eq_true rfl) dX11_memory_51 rfl (fun q3 => ?_)
    refine z_if_eq 59 57 dX11_memory_54 (by decide) rfl (fun c4 => ?_) (fun c4 => ?_)
    · refine z_aload_n 60 0 dX11_memory_59 rfl rfl ?_
      refine z_getI 63 zC11 (Nat.le_of_ble_eq_true rfl) rfl w_1045 dX11_memory_60 rfl (fun v5 _ => ?_)
      refine z_istore (lv2 := [(4, .int v5), (0, .ref (b0 + x0)), (3, .int x3)]) 65 dX11_memory_63 rfl (Nat.le_of_ble_eq_true rfl) rfl ?_
      refine z_iconst (nI 0) 66 zki_0 dX11_memory_65 rfl ?_
      refine z_istore (lv2 := [(5, .int (nI 0)), (4, .int v5), (0, .ref (b0 + x0)), (3, .int x3)]) 68 dX11_memory_66 rfl (Nat.le_of_ble_eq_true rfl) rfl ?_
      exact z_sub [2, 3, 1, 0] rfl (BX11_memory_68 b0 self40 x0 x3 v5 hself40 zfu (nI 0) q3.2)
    · refine z_iload_n 58 1 dX11_memory_57 rfl rfl ?_
      exact z_ireturn dX11_memory_58 rfl
theorem BX11_memory_40 (b0 : Nat) (x0 : Nat) (n : Nat) (x3 : Int32) (h : ZH) : Zr zi b0 YX11_memory 6 40 [(0, .ref (b0 + x0)), (3, .int x3)] [] h (zloop (lX11_memory_40 x0) n (x3, h)) :=
  zloop_Zr (fun s => [(0, .ref (b0 + x0)), (3, .int s.1)]) (fun _ => []) (fun s => s.2) (lX11_memory_40 x0) (fun self hs s => KX11_memory_40 b0 x0 self (fun y3 hh => hs (y3, hh)) s.1 s.2) n (x3, h)
def fX11_memory (x0 : Nat) (x1 : Int32) (h : ZH) : Option (Int32 × ZH) :=
  if x0 < zn h ∧ zK h x0 = 11 then ((fX11_isSlot x1 h).bind fun q1 =>
  if q1.1 = 0 then (some ((-2 : Int32), q1.2)) else
  ((fX11_findMembers x0 x1 q1.2).bind fun q3 =>
  if q3.1 = 0 then ((fX11_clearSeen x0 q3.2).bind fun h5 =>
  (gI h5 11 x0 30).bind fun v6 =>
  (fX11_see x0 ((jshl (nI 1) v6) - (nI 1)) h5).bind fun h7 =>
  zloop (lX11_memory_40 x0) zfu ((nI 0), h7)) else
  (some (q3.1, q3.2)))) else none
theorem kX11_memory {x0 : Nat} {x1 : Int32} {h : ZH} {x : Int32 × ZH} (e : fX11_memory x0 x1 h = some x) : x0 < zn h ∧ zK h x0 = 11 := by
  unfold fX11_memory at e
  exact zguard e
theorem mX11_memory (b0 : Nat) (x0 : Nat) (x1 : Int32) (h : ZH) : ZM zi b0 YX11_memory 6 [.ref (b0 + x0), .int x1] h (fX11_memory x0 x1 h) := by
  unfold fX11_memory
  refine ZM.of (by decide) rfl (Nat.le_of_ble_eq_true rfl) (fun _ => trivial) ?_
  refine z_sub (lv2 := [(0, .ref (b0 + x0)), (1, .int x1)]) [0, 1] rfl ?_
  refine z_guard (fun _ => ?_)
  refine z_iload_n 1 1 dX11_memory_0 rfl rfl ?_
  refine z_callSi 4 (mX11_isSlot b0 x1 h) zyX11_isSlot rfl w_1154 wt_yX11_isSlot (Nat.le_of_ble_eq_true rfl) rfl (Nat.le_of_ble_eq_true rfl) dX11_memory_1 rfl (fun q1 => ?_)
  refine z_if_ne 10 7 dX11_memory_4 (by decide) rfl (fun c2 => ?_) (fun c2 => ?_)
  · refine z_aload_n 11 0 dX11_memory_10 rfl rfl ?_
    refine z_iload_n 12 1 dX11_memory_11 rfl rfl ?_
    refine z_callVi 15 (mX11_findMembers b0 x0 x1 q1.2) zyX11_findMembers rfl w_1360 (ci := 11) rfl (Nat.le_of_ble_eq_true rfl) (fun _ e9 => kX11_findMembers e9) wm_yX11_findMembers ws_yX11_findMembers (Nat.le_of_ble_eq_true rfl) rfl (Nat.le_of_ble_eq_true rfl) dX11_memory_12 rfl (fun q3 => ?_)
    refine z_istore_n (lv2 := [(2, .int q3.1), (0, .ref (b0 + x0)), (1, .int x1)]) 16 dX11_memory_15 rfl (Nat.le_of_ble_eq_true rfl) rfl ?_
    refine z_iload_n 17 0 dX11_memory_16 rfl rfl ?_
    refine z_if_eq 22 20 dX11_memory_17 (by decide) rfl (fun c4 => ?_) (fun c4 => ?_)
    · refine z_aload_n 23 1 dX11_memory_22 rfl rfl ?_
      refine z_callVv 26 (mX11_clearSeen b0 x0 q3.2) zyX11_clearSeen rfl w_1368 (ci := 11) rfl (Nat.le_of_ble_eq_true rfl) (fun _ e9 => kX11_clearSeen e9) wm_yX11_clearSeen ws_yX11_clearSeen (Nat.le_of_ble_eq_true rfl) rfl (Nat.le_of_ble_eq_true rfl) dX11_memory_23 rfl (fun h5 => ?_)
      refine z_aload_n 27 1 dX11_memory_26 rfl rfl ?_
      refine z_iconst (nI 1) 28 zki_1 dX11_memory_27 rfl ?_
      refine z_aload_n 29 1 dX11_memory_28 rfl rfl ?_
      refine z_getI 32 zC11 (Nat.le_of_ble_eq_true rfl) rfl w_1047 dX11_memory_29 rfl (fun v6 _ => ?_)
      refine z_ishl 33 dX11_memory_32 rfl ?_
      refine z_iconst (nI 1) 34 zki_1 dX11_memory_33 rfl ?_
      refine z_isub 35 dX11_memory_34 rfl ?_
      refine z_callVv 38 (mX11_see b0 x0 ((jshl (nI 1) v6) - (nI 1)) h5) zyX11_see rfl w_1372 (ci := 11) rfl (Nat.le_of_ble_eq_true rfl) (fun _ e9 => kX11_see e9) wm_yX11_see ws_yX11_see (Nat.le_of_ble_eq_true rfl) rfl (Nat.le_of_ble_eq_true rfl) dX11_memory_35 rfl (fun h7 => ?_)
      refine z_iconst (nI 0) 39 zki_0 dX11_memory_38 rfl ?_
      refine z_istore_n (lv2 := [(3, .int (nI 0)), (2, .int q3.1), (0, .ref (b0 + x0)), (1, .int x1)]) 40 dX11_memory_39 rfl (Nat.le_of_ble_eq_true rfl) rfl ?_
      exact z_sub [2, 0] rfl (BX11_memory_40 b0 x0 zfu (nI 0) h7)
    · refine z_iload_n 21 0 dX11_memory_20 rfl rfl ?_
      exact z_ireturn dX11_memory_21 rfl
  · refine z_bipush (-2 : Int32) 9 zkb_m2 dX11_memory_7 rfl ?_
    exact z_ireturn dX11_memory_9 rfl
-- X11_isMixing
def bX11_isMixing_131 (t0 : Int32) (h : ZH) : Option (Int32 × ZH) :=
  some (t0, h)
theorem BX11_isMixing_131 (b0 : Nat) (t0 : Int32) (h : ZH) : Zr zi b0 YX11_isMixing 6 131 [] [.int t0] h (bX11_isMixing_131 t0 h) := by
  unfold bX11_isMixing_131
  exact z_ireturn dX11_isMixing_131 rfl
def bX11_isMixing_107 (self27 : Int64 × Int32 × ZH → Option (Int32 × ZH)) (self45 : Int64 × Int32 × Int32 × ZH → Option (Int32 × ZH)) (x0 : Nat) (x5 : Int32) (x6 : Int32) (x7 : Int32) (t0 : Int64) (h : ZH) : Option (Int32 × ZH) :=
  self45 (t0, x6, (x7 + (nI 1)), h)
theorem BX11_isMixing_107 (b0 : Nat) (self27 : Int64 × Int32 × ZH → Option (Int32 × ZH)) (self45 : Int64 × Int32 × Int32 × ZH → Option (Int32 × ZH)) (x0 : Nat) (x5 : Int32) (x6 : Int32) (x7 : Int32) (t0 : Int64) (h : ZH) (hself27 : ∀ (y3 : Int64) (y5 : Int32) (hh : ZH), Zr zi b0 YX11_isMixing 6 27 [(0, .ref (b0 + x0)), (3, .long y3), (5, .int y5)] [] hh (self27 (y3, y5, hh))) (hself45 : ∀ (y3 : Int64) (y6 : Int32) (y7 : Int32) (hh : ZH), Zr zi b0 YX11_isMixing 6 45 [(0, .ref (b0 + x0)), (5, .int x5), (3, .long y3), (6, .int y6), (7, .int y7)] [] hh (self45 (y3, y6, y7, hh))) : Zr zi b0 YX11_isMixing 6 107 [(0, .ref (b0 + x0)), (5, .int x5), (6, .int x6), (7, .int x7)] [.long t0] h (bX11_isMixing_107 self27 self45 x0 x5 x6 x7 t0 h) := by
  unfold bX11_isMixing_107
  refine z_lstore_n (lv2 := [(3, .long t0), (0, .ref (b0 + x0)), (5, .int x5), (6, .int x6), (7, .int x7)]) 108 dX11_isMixing_107 rfl (Nat.le_of_ble_eq_true rfl) rfl ?_
  refine z_iinc (lv2 := [(7, .int (x7 + (nI 1))), (3, .long t0), (0, .ref (b0 + x0)), (5, .int x5), (6, .int x6)]) (nI 1) 111 4 dX11_isMixing_108 rfl rfl zki_1 (Nat.le_of_ble_eq_true rfl) rfl ?_
  refine z_goto 45 dX11_isMixing_111 (by decide) ?_
  exact z_sub [2, 3, 1, 4, 0] rfl (hself45 t0 x6 (x7 + (nI 1)) h)
def kX11_isMixing_45 (self27 : Int64 × Int32 × ZH → Option (Int32 × ZH)) (x0 : Nat) (x5 : Int32) (self45 : Int64 × Int32 × Int32 × ZH → Option (Int32 × ZH)) (x3 : Int64) (x6 : Int32) (x7 : Int32) (h : ZH) : Option (Int32 × ZH) :=
  if (nI 8) < x7 then (self27 (x3, (x5 + (nI 1)), h)) else
  ((fX11_led x0 x6 (nI 0) h).bind fun q2 =>
  (fX11_led x0 x6 (nI 1) q2.2).bind fun q3 =>
  (fX11_led x0 x6 (nI 2) q3.2).bind fun q4 =>
  (fX11_led x0 x6 (nI 3) q4.2).bind fun q5 =>
  zl (((q2.1 ||| q3.1) ||| q4.1) ||| q5.1) fun v6 =>
  if ((jshr v6 x5) &&& (nI 1)) = (nI 1) then ((fX11_gcd (x7.toInt64) x3 q5.2).bind fun q8 =>
  bX11_isMixing_107 self27 self45 x0 x5 v6 x7 q8.1 q8.2) else
  (bX11_isMixing_107 self27 self45 x0 x5 v6 x7 x3 q5.2))
def lX11_isMixing_45 (self27 : Int64 × Int32 × ZH → Option (Int32 × ZH)) (x0 : Nat) (x5 : Int32) : (Int64 × Int32 × Int32 × ZH → Option (Int32 × ZH)) → Int64 × Int32 × Int32 × ZH → Option (Int32 × ZH) := fun self s => kX11_isMixing_45 self27 x0 x5 self s.1 s.2.1 s.2.2.1 s.2.2.2
theorem KX11_isMixing_45 (b0 : Nat) (self27 : Int64 × Int32 × ZH → Option (Int32 × ZH)) (x0 : Nat) (x5 : Int32) (hself27 : ∀ (y3 : Int64) (y5 : Int32) (hh : ZH), Zr zi b0 YX11_isMixing 6 27 [(0, .ref (b0 + x0)), (3, .long y3), (5, .int y5)] [] hh (self27 (y3, y5, hh))) (self45 : Int64 × Int32 × Int32 × ZH → Option (Int32 × ZH)) (hself45 : ∀ (y3 : Int64) (y6 : Int32) (y7 : Int32) (hh : ZH), Zr zi b0 YX11_isMixing 6 45 [(0, .ref (b0 + x0)), (5, .int x5), (3, .long y3), (6, .int y6), (7, .int y7)] [] hh (self45 (y3, y6, y7, hh))) (x3 : Int64) (x6 : Int32) (x7 : Int32) (h : ZH) : Zr zi b0 YX11_isMixing 6 45 [(0, .ref (b0 + x0)), (5, .int x5), (3, .long x3), (6, .int x6), (7, .int x7)] [] h (kX11_isMixing_45 self27 x0 x5 self45 x3 x6 x7 h) := by
  unfold kX11_isMixing_45
  refine z_iload 47 4 dX11_isMixing_45 rfl rfl ?_
  refine z_bipush (nI 8) 49 zkb_8 dX11_isMixing_47 rfl ?_
  refine z_icmp_gt 114 52 dX11_isMixing_49 (by decide) rfl (fun c1 => ?_) (fun c1 => ?_)
  · refine z_iinc (lv2 := [(5, .int (x5 + (nI 1))), (0, .ref (b0 + x0)), (3, .long x3), (6, .int x6), (7, .int x7)]) (nI 1) 117 1 dX11_isMixing_114 rfl rfl zki_1 (Nat.le_of_ble_eq_true rfl) rfl ?_
    refine z_goto 27 dX11_isMixing_117 (by decide) ?_
    exact z_sub [1, 2, 0] rfl (hself27 x3 (x5 + (nI 1)) h)
  · refine z_aload_n 53 0 dX11_isMixing_52 rfl rfl ?_
    refine z_iload 55 3 dX11_isMixing_53 rfl rfl ?_
    refine z_iconst (nI 0) 56 zki_0 dX11_isMixing_55 rfl ?_
    refine z_callVi 59 (mX11_led b0 x0 x6 (nI 0) h) zyX11_led rfl w_1400 (ci := 11) rfl (Nat.le_of_ble_eq_true rfl) (fun _ e9 => kX11_led e9) wm_yX11_led ws_yX11_led (Nat.le_of_ble_eq_true rfl) rfl (Nat.le_of_ble_eq_true rfl) dX11_isMixing_56 rfl (fun q2 => ?_)
    refine z_aload_n 60 0 dX11_isMixing_59 rfl rfl ?_
    refine z_iload 62 3 dX11_isMixing_60 rfl rfl ?_
    refine z_iconst (nI 1) 63 zki_1 dX11_isMixing_62 rfl ?_
    refine z_callVi 66 (mX11_led b0 x0 x6 (nI 1) q2.2) zyX11_led rfl w_1400 (ci := 11) rfl (Nat.le_of_ble_eq_true rfl) (fun _ e9 => kX11_led e9) wm_yX11_led ws_yX11_led (Nat.le_of_ble_eq_true rfl) rfl (Nat.le_of_ble_eq_true rfl) dX11_isMixing_63 rfl (fun q3 => ?_)
    refine z_ior 67 dX11_isMixing_66 rfl ?_
    refine z_aload_n 68 0 dX11_isMixing_67 rfl rfl ?_
    refine z_iload 70 3 dX11_isMixing_68 rfl rfl ?_
    refine z_iconst (nI 2) 71 zki_2 dX11_isMixing_70 rfl ?_
    refine z_callVi 74 (mX11_led b0 x0 x6 (nI 2) q3.2) zyX11_led rfl w_1400 (ci := 11) rfl (Nat.le_of_ble_eq_true rfl) (fun _ e9 => kX11_led e9) wm_yX11_led ws_yX11_led (Nat.le_of_ble_eq_true rfl) rfl (Nat.le_of_ble_eq_true rfl) dX11_isMixing_71 rfl (fun q4 => ?_)
    refine z_ior 75 dX11_isMixing_74 rfl ?_
    refine z_aload_n 76 0 dX11_isMixing_75 rfl rfl ?_
    refine z_iload 78 3 dX11_isMixing_76 rfl rfl ?_
    refine z_iconst (nI 3) 79 zki_3 dX11_isMixing_78 rfl ?_
    refine z_callVi 82 (mX11_led b0 x0 x6 (nI 3) q4.2) zyX11_led rfl w_1400 (ci := 11) rfl (Nat.le_of_ble_eq_true rfl) (fun _ e9 => kX11_led e9) wm_yX11_led ws_yX11_led (Nat.le_of_ble_eq_true rfl) rfl (Nat.le_of_ble_eq_true rfl) dX11_isMixing_79 rfl (fun q5 => ?_)
    refine z_ior 83 dX11_isMixing_82 rfl ?_
    refine z_letI (fun v6 _ => ?_)
    refine z_istore (lv2 := [(6, .int v6), (0, .ref (b0 + x0)), (5, .int x5), (3, .long x3), (7, .int x7)]) 85 dX11_isMixing_83 rfl (Nat.le_of_ble_eq_true rfl) rfl ?_
    refine z_iload 87 0 dX11_isMixing_85 rfl rfl ?_
    refine z_iload 89 2 dX11_isMixing_87 rfl rfl ?_
    refine z_ishr 90 dX11_isMixing_89 rfl ?_
    refine z_iconst (nI 1) 91 zki_1 dX11_isMixing_90 rfl ?_
    refine z_iand 92 dX11_isMixing_91 rfl ?_
    refine z_iconst (nI 1) 93 zki_1 dX11_isMixing_92 rfl ?_
    refine z_icmp_ne 106 96 dX11_isMixing_93 (by decide) rfl (fun c7 => ?_) (fun c7 => ?_)
    · refine z_lload_n 107 3 dX11_isMixing_106 rfl rfl ?_
      exact z_sub [1, 2, 0, 4] rfl (BX11_isMixing_107 b0 self27 self45 x0 x5 v6 x7 x3 q5.2 hself27 hself45)
    · refine z_iload 98 4 dX11_isMixing_96 rfl rfl ?_
      refine z_i2l 99 dX11_isMixing_98 rfl ?_
      refine z_lload_n 100 3 dX11_isMixing_99 rfl rfl ?_
      refine z_callSj 103 (mX11_gcd b0 (x7.toInt64) x3 q5.2) zyX11_gcd rfl w_1255 wt_yX11_gcd (Nat.le_of_ble_eq_true rfl) rfl (Nat.le_of_ble_eq_true rfl) dX11_isMixing_100 rfl (fun q8 => ?_)
      refine z_goto 107 dX11_isMixing_103 (by decide) ?_
      exact z_sub [1, 2, 0, 4] rfl (BX11_isMixing_107 b0 self27 self45 x0 x5 v6 x7 q8.1 q8.2 hself27 hself45)
theorem BX11_isMixing_45 (b0 : Nat) (self27 : Int64 × Int32 × ZH → Option (Int32 × ZH)) (x0 : Nat) (x5 : Int32) (hself27 : ∀ (y3 : Int64) (y5 : Int32) (hh : ZH), Zr zi b0 YX11_isMixing 6 27 [(0, .ref (b0 + x0)), (3, .long y3), (5, .int y5)] [] hh (self27 (y3, y5, hh))) (n : Nat) (x3 : Int64) (x6 : Int32) (x7 : Int32) (h : ZH) : Zr zi b0 YX11_isMixing 6 45 [(0, .ref (b0 + x0)), (5, .int x5), (3, .long x3), (6, .int x6), (7, .int x7)] [] h (zloop (lX11_isMixing_45 self27 x0 x5) n (x3, x6, x7, h)) :=
  zloop_Zr (fun s => [(0, .ref (b0 + x0)), (5, .int x5), (3, .long s.1), (6, .int s.2.1), (7, .int s.2.2.1)]) (fun _ => []) (fun s => s.2.2.2) (lX11_isMixing_45 self27 x0 x5) (fun self hs s => KX11_isMixing_45 b0 self27 x0 x5 hself27 self (fun y3 y6 y7 hh => hs (y3, y6, y7, hh)) s.1 s.2.1 s.2.2.1 s.2.2.2) n (x3, x6, x7, h)
def kX11_isMixing_27 (x0 : Nat) (self27 : Int64 × Int32 × ZH → Option (Int32 × ZH)) (x3 : Int64) (x5 : Int32) (h : ZH) : Option (Int32 × ZH) :=
  (gI h 11 x0 30).bind fun v1 =>
  if v1 ≤ x5 then (if (lg_cmp x3 (lN 1)) = 0 then (bX11_isMixing_131 (nI 1) h) else
  (bX11_isMixing_131 (nI 0) h)) else
  (zl (jshl (nI 1) x5) fun v4 =>
  zloop (lX11_isMixing_45 self27 x0 x5) zfu (x3, v4, (nI 1), h))
def lX11_isMixing_27 (x0 : Nat) : (Int64 × Int32 × ZH → Option (Int32 × ZH)) → Int64 × Int32 × ZH → Option (Int32 × ZH) := fun self s => kX11_isMixing_27 x0 self s.1 s.2.1 s.2.2
theorem KX11_isMixing_27 (b0 : Nat) (x0 : Nat) (self27 : Int64 × Int32 × ZH → Option (Int32 × ZH)) (hself27 : ∀ (y3 : Int64) (y5 : Int32) (hh : ZH), Zr zi b0 YX11_isMixing 6 27 [(0, .ref (b0 + x0)), (3, .long y3), (5, .int y5)] [] hh (self27 (y3, y5, hh))) (x3 : Int64) (x5 : Int32) (h : ZH) : Zr zi b0 YX11_isMixing 6 27 [(0, .ref (b0 + x0)), (3, .long x3), (5, .int x5)] [] h (kX11_isMixing_27 x0 self27 x3 x5 h) := by
  unfold kX11_isMixing_27
  refine z_iload 29 2 dX11_isMixing_27 rfl rfl ?_
  refine z_aload_n 30 0 dX11_isMixing_29 rfl rfl ?_
  refine z_getI 33 zC11 (Nat.le_of_ble_eq_true rfl) rfl w_1047 dX11_isMixing_30 rfl (fun v1 _ => ?_)
  refine z_icmp_ge 120 36 dX11_isMixing_33 (by decide) rfl (fun c2 => ?_) (fun c2 => ?_)
  · refine z_lload_n 121 1 dX11_isMixing_120 rfl rfl ?_
    refine z_lconst (lN 1) 122 rfl dX11_isMixing_121 rfl ?_
    refine z_lcmp 123 dX11_isMixing_122 rfl ?_
    refine z_if_ne 130 126 dX11_isMixing_123 (by decide) rfl (fun c3 => ?_) (fun c3 => ?_)
    · refine z_iconst (nI 0) 131 zki_0 dX11_isMixing_130 rfl ?_
      exact z_sub [] rfl (BX11_isMixing_131 b0 (nI 0) h )
    · refine z_iconst (nI 1) 127 zki_1 dX11_isMixing_126 rfl ?_
      refine z_goto 131 dX11_isMixing_127 (by decide) ?_
      exact z_sub [] rfl (BX11_isMixing_131 b0 (nI 1) h )
  · refine z_iconst (nI 1) 37 zki_1 dX11_isMixing_36 rfl ?_
    refine z_iload 39 2 dX11_isMixing_37 rfl rfl ?_
    refine z_ishl 40 dX11_isMixing_39 rfl ?_
    refine z_letI (fun v4 _ => ?_)
    refine z_istore (lv2 := [(6, .int v4), (0, .ref (b0 + x0)), (3, .long x3), (5, .int x5)]) 42 dX11_isMixing_40 rfl (Nat.le_of_ble_eq_true rfl) rfl ?_
    refine z_iconst (nI 1) 43 zki_1 dX11_isMixing_42 rfl ?_
    refine z_istore (lv2 := [(7, .int (nI 1)), (6, .int v4), (0, .ref (b0 + x0)), (3, .long x3), (5, .int x5)]) 45 dX11_isMixing_43 rfl (Nat.le_of_ble_eq_true rfl) rfl ?_
    exact z_sub [2, 4, 3, 1, 0] rfl (BX11_isMixing_45 b0 self27 x0 x5 hself27 zfu x3 v4 (nI 1) h)
theorem BX11_isMixing_27 (b0 : Nat) (x0 : Nat) (n : Nat) (x3 : Int64) (x5 : Int32) (h : ZH) : Zr zi b0 YX11_isMixing 6 27 [(0, .ref (b0 + x0)), (3, .long x3), (5, .int x5)] [] h (zloop (lX11_isMixing_27 x0) n (x3, x5, h)) :=
  zloop_Zr (fun s => [(0, .ref (b0 + x0)), (3, .long s.1), (5, .int s.2.1)]) (fun _ => []) (fun s => s.2.2) (lX11_isMixing_27 x0) (fun self hs s => KX11_isMixing_27 b0 x0 self (fun y3 y5 hh => hs (y3, y5, hh)) s.1 s.2.1 s.2.2) n (x3, x5, h)
def fX11_isMixing (x0 : Nat) (x1 : Int32) (h : ZH) : Option (Int32 × ZH) :=
  if x0 < zn h ∧ zK h x0 = 11 then ((fX11_isSlot x1 h).bind fun q1 =>
  if q1.1 = 0 then (some ((-2 : Int32), q1.2)) else
  ((fX11_findMembers x0 x1 q1.2).bind fun q3 =>
  if q3.1 = 0 then (zloop (lX11_isMixing_27 x0) zfu ((lN 0), (nI 0), q3.2)) else
  (some (q3.1, q3.2)))) else none
theorem kX11_isMixing {x0 : Nat} {x1 : Int32} {h : ZH} {x : Int32 × ZH} (e : fX11_isMixing x0 x1 h = some x) : x0 < zn h ∧ zK h x0 = 11 := by
  unfold fX11_isMixing at e
  exact zguard e
theorem mX11_isMixing (b0 : Nat) (x0 : Nat) (x1 : Int32) (h : ZH) : ZM zi b0 YX11_isMixing 6 [.ref (b0 + x0), .int x1] h (fX11_isMixing x0 x1 h) := by
  unfold fX11_isMixing
  refine ZM.of (by decide) rfl (Nat.le_of_ble_eq_true rfl) (fun _ => trivial) ?_
  refine z_sub (lv2 := [(0, .ref (b0 + x0)), (1, .int x1)]) [0, 1] rfl ?_
  refine z_guard (fun _ => ?_)
  refine z_iload_n 1 1 dX11_isMixing_0 rfl rfl ?_
  refine z_callSi 4 (mX11_isSlot b0 x1 h) zyX11_isSlot rfl w_1154 wt_yX11_isSlot (Nat.le_of_ble_eq_true rfl) rfl (Nat.le_of_ble_eq_true rfl) dX11_isMixing_1 rfl (fun q1 => ?_)
  refine z_if_ne 10 7 dX11_isMixing_4 (by decide) rfl (fun c2 => ?_) (fun c2 => ?_)
  · refine z_aload_n 11 0 dX11_isMixing_10 rfl rfl ?_
    refine z_iload_n 12 1 dX11_isMixing_11 rfl rfl ?_
    refine z_callVi 15 (mX11_findMembers b0 x0 x1 q1.2) zyX11_findMembers rfl w_1360 (ci := 11) rfl (Nat.le_of_ble_eq_true rfl) (fun _ e9 => kX11_findMembers e9) wm_yX11_findMembers ws_yX11_findMembers (Nat.le_of_ble_eq_true rfl) rfl (Nat.le_of_ble_eq_true rfl) dX11_isMixing_12 rfl (fun q3 => ?_)
    refine z_istore_n (lv2 := [(2, .int q3.1), (0, .ref (b0 + x0)), (1, .int x1)]) 16 dX11_isMixing_15 rfl (Nat.le_of_ble_eq_true rfl) rfl ?_
    refine z_iload_n 17 0 dX11_isMixing_16 rfl rfl ?_
    refine z_if_eq 22 20 dX11_isMixing_17 (by decide) rfl (fun c4 => ?_) (fun c4 => ?_)
    · refine z_lconst (lN 0) 23 rfl dX11_isMixing_22 rfl ?_
      refine z_lstore_n (lv2 := [(3, .long (lN 0)), (2, .int q3.1), (0, .ref (b0 + x0)), (1, .int x1)]) 24 dX11_isMixing_23 rfl (Nat.le_of_ble_eq_true rfl) rfl ?_
      refine z_iconst (nI 0) 25 zki_0 dX11_isMixing_24 rfl ?_
      refine z_istore (lv2 := [(5, .int (nI 0)), (3, .long (lN 0)), (2, .int q3.1), (0, .ref (b0 + x0)), (1, .int x1)]) 27 dX11_isMixing_25 rfl (Nat.le_of_ble_eq_true rfl) rfl ?_
      exact z_sub [3, 1, 0] rfl (BX11_isMixing_27 b0 x0 zfu (lN 0) (nI 0) q3.2)
    · refine z_iload_n 21 0 dX11_isMixing_20 rfl rfl ?_
      exact z_ireturn dX11_isMixing_21 rfl
  · refine z_bipush (-2 : Int32) 9 zkb_m2 dX11_isMixing_7 rfl ?_
    exact z_ireturn dX11_isMixing_9 rfl
-- X11_spellDifference
def kX11_spellDifference_44 (x0 : Nat) (x1 : Int32) (self44 : Int32 × Int32 × ZH → Option (Int32 × ZH)) (x3 : Int32) (x4 : Int32) (h : ZH) : Option (Int32 × ZH) :=
  if x4 = x1 then ((fX11_writeOut x0 h).bind fun q2 =>
  some (q2.1, q2.2)) else
  ((gR h 11 x0 11).bind fun v3 =>
  (gR h 11 x0 38).bind fun v4 =>
  (lI h 14 v4 x4).bind fun v5 =>
  if (nI 4) = 0 then none else
  (sI h 14 v3 x3 (jrem v5 (nI 4))).bind fun h6 =>
  (gR h6 11 x0 38).bind fun v7 =>
  (lI h6 14 v7 x4).bind fun v8 =>
  if (nI 4) = 0 then none else
  zl (v8 / (nI 4)) fun v9 =>
  self44 ((x3 + (-1 : Int32)), v9, h6))
def lX11_spellDifference_44 (x0 : Nat) (x1 : Int32) : (Int32 × Int32 × ZH → Option (Int32 × ZH)) → Int32 × Int32 × ZH → Option (Int32 × ZH) := fun self s => kX11_spellDifference_44 x0 x1 self s.1 s.2.1 s.2.2
theorem KX11_spellDifference_44 (b0 : Nat) (x0 : Nat) (x1 : Int32) (self44 : Int32 × Int32 × ZH → Option (Int32 × ZH)) (hself44 : ∀ (y3 : Int32) (y4 : Int32) (hh : ZH), Zr zi b0 YX11_spellDifference 2 44 [(0, .ref (b0 + x0)), (1, .int x1), (3, .int y3), (4, .int y4)] [] hh (self44 (y3, y4, hh))) (x3 : Int32) (x4 : Int32) (h : ZH) : Zr zi b0 YX11_spellDifference 2 44 [(0, .ref (b0 + x0)), (1, .int x1), (3, .int x3), (4, .int x4)] [] h (kX11_spellDifference_44 x0 x1 self44 x3 x4 h) := by
  unfold kX11_spellDifference_44
  refine z_iload 46 3 dX11_spellDifference_44 rfl rfl ?_
  refine z_iload_n 47 1 dX11_spellDifference_46 rfl rfl ?_
  refine z_icmp_eq 82 50 dX11_spellDifference_47 (by decide) rfl (fun c1 => ?_) (fun c1 => ?_)
  · refine z_aload_n 83 0 dX11_spellDifference_82 rfl rfl ?_
    refine z_callVi 86 (mX11_writeOut b0 x0 h) zyX11_writeOut rfl w_1295 (ci := 11) rfl (Nat.le_of_ble_eq_true rfl) (fun _ e9 => kX11_writeOut e9) wm_yX11_writeOut ws_yX11_writeOut (Nat.le_of_ble_eq_true rfl) rfl (Nat.le_of_ble_eq_true rfl) dX11_spellDifference_83 rfl (fun q2 => ?_)
    exact z_ireturn dX11_spellDifference_86 rfl
  · refine z_aload_n 51 0 dX11_spellDifference_50 rfl rfl ?_
    refine z_getR 54 zC11 (Nat.le_of_ble_eq_true rfl) rfl w_1028 dX11_spellDifference_51 rfl (fun v3 _ => ?_)
    refine z_iload_n 55 2 dX11_spellDifference_54 rfl rfl ?_
    refine z_aload_n 56 0 dX11_spellDifference_55 rfl rfl ?_
    refine z_getR 59 zC11 (Nat.le_of_ble_eq_true rfl) rfl w_1055 dX11_spellDifference_56 rfl (fun v4 _ => ?_)
    refine z_iload 61 3 dX11_spellDifference_59 rfl rfl ?_
    refine z_iaload 62 dX11_spellDifference_61 rfl (fun v5 _ => ?_)
    refine z_iconst (nI 4) 63 zki_4 dX11_spellDifference_62 rfl ?_
    refine z_irem 64 dX11_spellDifference_63 rfl (fun _ => ?_)
    refine z_iastore 65 dX11_spellDifference_64 rfl (fun h6 _ => ?_)
    refine z_iinc (lv2 := [(3, .int (x3 + (-1 : Int32))), (0, .ref (b0 + x0)), (1, .int x1), (4, .int x4)]) (-1 : Int32) 68 2 dX11_spellDifference_65 rfl rfl zki_m1 (Nat.le_of_ble_eq_true rfl) rfl ?_
    refine z_aload_n 69 1 dX11_spellDifference_68 rfl rfl ?_
    refine z_getR 72 zC11 (Nat.le_of_ble_eq_true rfl) rfl w_1055 dX11_spellDifference_69 rfl (fun v7 _ => ?_)
    refine z_iload 74 3 dX11_spellDifference_72 rfl rfl ?_
    refine z_iaload 75 dX11_spellDifference_74 rfl (fun v8 _ => ?_)
    refine z_iconst (nI 4) 76 zki_4 dX11_spellDifference_75 rfl ?_
    refine z_idiv 77 dX11_spellDifference_76 rfl (fun _ => ?_)
    refine z_letI (fun v9 _ => ?_)
    refine z_istore (lv2 := [(4, .int v9), (3, .int (x3 + (-1 : Int32))), (0, .ref (b0 + x0)), (1, .int x1)]) 79 dX11_spellDifference_77 rfl (Nat.le_of_ble_eq_true rfl) rfl ?_
    refine z_goto 44 dX11_spellDifference_79 (by decide) ?_
    exact z_sub [2, 3, 1, 0] rfl (hself44 (x3 + (-1 : Int32)) v9 h6)
theorem BX11_spellDifference_44 (b0 : Nat) (x0 : Nat) (x1 : Int32) (n : Nat) (x3 : Int32) (x4 : Int32) (h : ZH) : Zr zi b0 YX11_spellDifference 2 44 [(0, .ref (b0 + x0)), (1, .int x1), (3, .int x3), (4, .int x4)] [] h (zloop (lX11_spellDifference_44 x0 x1) n (x3, x4, h)) :=
  zloop_Zr (fun s => [(0, .ref (b0 + x0)), (1, .int x1), (3, .int s.1), (4, .int s.2.1)]) (fun _ => []) (fun s => s.2.2) (lX11_spellDifference_44 x0 x1) (fun self hs s => KX11_spellDifference_44 b0 x0 x1 self (fun y3 y4 hh => hs (y3, y4, hh)) s.1 s.2.1 s.2.2) n (x3, x4, h)
def kX11_spellDifference_7 (x0 : Nat) (x1 : Int32) (x2 : Int32) (self7 : Int32 × ZH → Option (Int32 × ZH)) (x3 : Int32) (h : ZH) : Option (Int32 × ZH) :=
  if x3 = x1 then ((gI h 11 x0 12).bind fun v2 =>
  zl (v2 - (nI 1)) fun v3 =>
  zloop (lX11_spellDifference_44 x0 x1) zfu (v3, x2, h)) else
  ((gI h 11 x0 12).bind fun v4 =>
  (pI h 11 x0 12 (v4 + (nI 1))).bind fun h5 =>
  (gR h5 11 x0 38).bind fun v6 =>
  (lI h5 14 v6 x3).bind fun v7 =>
  if (nI 4) = 0 then none else
  zl (v7 / (nI 4)) fun v8 =>
  self7 (v8, h5))
def lX11_spellDifference_7 (x0 : Nat) (x1 : Int32) (x2 : Int32) : (Int32 × ZH → Option (Int32 × ZH)) → Int32 × ZH → Option (Int32 × ZH) := fun self s => kX11_spellDifference_7 x0 x1 x2 self s.1 s.2
theorem KX11_spellDifference_7 (b0 : Nat) (x0 : Nat) (x1 : Int32) (x2 : Int32) (self7 : Int32 × ZH → Option (Int32 × ZH)) (hself7 : ∀ (y3 : Int32) (hh : ZH), Zr zi b0 YX11_spellDifference 2 7 [(0, .ref (b0 + x0)), (1, .int x1), (2, .int x2), (3, .int y3)] [] hh (self7 (y3, hh))) (x3 : Int32) (h : ZH) : Zr zi b0 YX11_spellDifference 2 7 [(0, .ref (b0 + x0)), (1, .int x1), (2, .int x2), (3, .int x3)] [] h (kX11_spellDifference_7 x0 x1 x2 self7 x3 h) := by
  unfold kX11_spellDifference_7
  refine z_iload_n 8 3 dX11_spellDifference_7 rfl rfl ?_
  refine z_iload_n 9 1 dX11_spellDifference_8 rfl rfl ?_
  refine z_icmp_eq 34 12 dX11_spellDifference_9 (by decide) rfl (fun c1 => ?_) (fun c1 => ?_)
  · refine z_aload_n 35 0 dX11_spellDifference_34 rfl rfl ?_
    refine z_getI 38 zC11 (Nat.le_of_ble_eq_true rfl) rfl w_1029 dX11_spellDifference_35 rfl (fun v2 _ => ?_)
    refine z_iconst (nI 1) 39 zki_1 dX11_spellDifference_38 rfl ?_
    refine z_isub 40 dX11_spellDifference_39 rfl ?_
    refine z_letI (fun v3 _ => ?_)
    refine z_istore_n (lv2 := [(3, .int v3), (0, .ref (b0 + x0)), (1, .int x1), (2, .int x2)]) 41 dX11_spellDifference_40 rfl (Nat.le_of_ble_eq_true rfl) rfl ?_
    refine z_iload_n 42 3 dX11_spellDifference_41 rfl rfl ?_
    refine z_istore (lv2 := [(4, .int x2), (3, .int v3), (0, .ref (b0 + x0)), (1, .int x1), (2, .int x2)]) 44 dX11_spellDifference_42 rfl (Nat.le_of_ble_eq_true rfl) rfl ?_
    exact z_sub [2, 3, 1, 0] rfl (BX11_spellDifference_44 b0 x0 x1 zfu v3 x2 h)
  · refine z_aload_n 13 0 dX11_spellDifference_12 rfl rfl ?_
    refine z_dup 14 rfl dX11_spellDifference_13 rfl ?_
    refine z_getI 17 zC11 (Nat.le_of_ble_eq_true rfl) rfl w_1029 dX11_spellDifference_14 rfl (fun v4 _ => ?_)
    refine z_iconst (nI 1) 18 zki_1 dX11_spellDifference_17 rfl ?_
    refine z_iadd 19 dX11_spellDifference_18 rfl ?_
    refine z_putI 22 zC11 (Nat.le_of_ble_eq_true rfl) rfl rfl rfl w_1029 dX11_spellDifference_19 rfl (fun h5 _ => ?_)
    refine z_aload_n 23 0 dX11_spellDifference_22 rfl rfl ?_
    refine z_getR 26 zC11 (Nat.le_of_ble_eq_true rfl) rfl w_1055 dX11_spellDifference_23 rfl (fun v6 _ => ?_)
    refine z_iload_n 27 3 dX11_spellDifference_26 rfl rfl ?_
    refine z_iaload 28 dX11_spellDifference_27 rfl (fun v7 _ => ?_)
    refine z_iconst (nI 4) 29 zki_4 dX11_spellDifference_28 rfl ?_
    refine z_idiv 30 dX11_spellDifference_29 rfl (fun _ => ?_)
    refine z_letI (fun v8 _ => ?_)
    refine z_istore_n (lv2 := [(3, .int v8), (0, .ref (b0 + x0)), (1, .int x1), (2, .int x2)]) 31 dX11_spellDifference_30 rfl (Nat.le_of_ble_eq_true rfl) rfl ?_
    refine z_goto 7 dX11_spellDifference_31 (by decide) ?_
    exact z_sub [1, 2, 3, 0] rfl (hself7 v8 h5)
theorem BX11_spellDifference_7 (b0 : Nat) (x0 : Nat) (x1 : Int32) (x2 : Int32) (n : Nat) (x3 : Int32) (h : ZH) : Zr zi b0 YX11_spellDifference 2 7 [(0, .ref (b0 + x0)), (1, .int x1), (2, .int x2), (3, .int x3)] [] h (zloop (lX11_spellDifference_7 x0 x1 x2) n (x3, h)) :=
  zloop_Zr (fun s => [(0, .ref (b0 + x0)), (1, .int x1), (2, .int x2), (3, .int s.1)]) (fun _ => []) (fun s => s.2) (lX11_spellDifference_7 x0 x1 x2) (fun self hs s => KX11_spellDifference_7 b0 x0 x1 x2 self (fun y3 hh => hs (y3, hh)) s.1 s.2) n (x3, h)
def fX11_spellDifference (x0 : Nat) (x1 : Int32) (x2 : Int32) (h : ZH) : Option (Int32 × ZH) :=
  if x0 < zn h ∧ zK h x0 = 11 then ((pI h 11 x0 12 (nI 0)).bind fun h1 =>
  zloop (lX11_spellDifference_7 x0 x1 x2) zfu (x2, h1)) else none
theorem kX11_spellDifference {x0 : Nat} {x1 : Int32} {x2 : Int32} {h : ZH} {x : Int32 × ZH} (e : fX11_spellDifference x0 x1 x2 h = some x) : x0 < zn h ∧ zK h x0 = 11 := by
  unfold fX11_spellDifference at e
  exact zguard e
theorem mX11_spellDifference (b0 : Nat) (x0 : Nat) (x1 : Int32) (x2 : Int32) (h : ZH) : ZM zi b0 YX11_spellDifference 2 [.ref (b0 + x0), .int x1, .int x2] h (fX11_spellDifference x0 x1 x2 h) := by
  unfold fX11_spellDifference
  refine ZM.of (by decide) rfl (Nat.le_of_ble_eq_true rfl) (fun _ => trivial) ?_
  refine z_sub (lv2 := [(0, .ref (b0 + x0)), (1, .int x1), (2, .int x2)]) [0, 1, 2] rfl ?_
  refine z_guard (fun _ => ?_)
  refine z_aload_n 1 0 dX11_spellDifference_0 rfl rfl ?_
  refine z_iconst (nI 0) 2 zki_0 dX11_spellDifference_1 rfl ?_
  refine z_putI 5 zC11 (Nat.le_of_ble_eq_true rfl) rfl rfl rfl w_1029 dX11_spellDifference_2 rfl (fun h1 _ => ?_)
  refine z_iload_n 6 2 dX11_spellDifference_5 rfl rfl ?_
  refine z_istore_n (lv2 := [(3, .int x2), (0, .ref (b0 + x0)), (1, .int x1), (2, .int x2)]) 7 dX11_spellDifference_6 rfl (Nat.le_of_ble_eq_true rfl) rfl ?_
  exact z_sub [1, 2, 3, 0] rfl (BX11_spellDifference_7 b0 x0 x1 x2 zfu x2 h1)
-- X11_writeDifference
def bX11_writeDifference_294 (self155 : Int32 × Int32 × ZH → Option (Int32 × ZH)) (self165 : Int32 × Int32 × ZH → Option (Int32 × ZH)) (x0 : Nat) (x4 : Int32) (x5 : Int32) (x6 : Int32) (x7 : Int32) (h : ZH) : Option (Int32 × ZH) :=
  self165 (x5, (x7 + (nI 1)), h)
theorem BX11_writeDifference_294 (b0 : Nat) (self155 : Int32 × Int32 × ZH → Option (Int32 × ZH)) (self165 : Int32 × Int32 × ZH → Option (Int32 × ZH)) (x0 : Nat) (x4 : Int32) (x5 : Int32) (x6 : Int32) (x7 : Int32) (h : ZH) (hself155 : ∀ (y5 : Int32) (y6 : Int32) (hh : ZH), Zr zi b0 YX11_writeDifference 5 155 [(0, .ref (b0 + x0)), (4, .int x4), (5, .int y5), (6, .int y6)] [] hh (self155 (y5, y6, hh))) (hself165 : ∀ (y5 : Int32) (y7 : Int32) (hh : ZH), Zr zi b0 YX11_writeDifference 5 165 [(0, .ref (b0 + x0)), (4, .int x4), (6, .int x6), (5, .int y5), (7, .int y7)] [] hh (self165 (y5, y7, hh))) : Zr zi b0 YX11_writeDifference 5 294 [(0, .ref (b0 + x0)), (4, .int x4), (5, .int x5), (6, .int x6), (7, .int x7)] [] h (bX11_writeDifference_294 self155 self165 x0 x4 x5 x6 x7 h) := by
  unfold bX11_writeDifference_294
  refine z_iinc (lv2 := [(7, .int (x7 + (nI 1))), (0, .ref (b0 + x0)), (4, .int x4), (5, .int x5), (6, .int x6)]) (nI 1) 297 4 dX11_writeDifference_294 rfl rfl zki_1 (Nat.le_of_ble_eq_true rfl) rfl ?_
  refine z_goto 165 dX11_writeDifference_297 (by decide) ?_
  exact z_sub [1, 2, 4, 3, 0] rfl (hself165 x5 (x7 + (nI 1)) h)
def bX11_writeDifference_285 (x0 : Nat) (x4 : Int32) (x10 : Int32) (h : ZH) : Option (Int32 × ZH) :=
  (fX11_spellDifference x0 x4 x10 h).bind fun q1 =>
  some (q1.1, q1.2)
theorem BX11_writeDifference_285 (b0 : Nat) (x0 : Nat) (x4 : Int32) (x10 : Int32) (h : ZH) : Zr zi b0 YX11_writeDifference 5 285 [(0, .ref (b0 + x0)), (4, .int x4), (10, .int x10)] [] h (bX11_writeDifference_285 x0 x4 x10 h) := by
  unfold bX11_writeDifference_285
  refine z_aload_n 286 0 dX11_writeDifference_285 rfl rfl ?_
  refine z_iload 288 1 dX11_writeDifference_286 rfl rfl ?_
  refine z_iload 290 2 dX11_writeDifference_288 rfl rfl ?_
  refine z_callVi 293 (mX11_spellDifference b0 x0 x4 x10 h) zyX11_spellDifference rfl w_1428 (ci := 11) rfl (Nat.le_of_ble_eq_true rfl) (fun _ e9 => kX11_spellDifference e9) wm_yX11_spellDifference ws_yX11_spellDifference (Nat.le_of_ble_eq_true rfl) rfl (Nat.le_of_ble_eq_true rfl) dX11_writeDifference_290 rfl (fun q1 => ?_)
  exact z_ireturn dX11_writeDifference_293 rfl
def kX11_writeDifference_165 (self155 : Int32 × Int32 × ZH → Option (Int32 × ZH)) (x0 : Nat) (x4 : Int32) (x6 : Int32) (self165 : Int32 × Int32 × ZH → Option (Int32 × ZH)) (x5 : Int32) (x7 : Int32) (h : ZH) : Option (Int32 × ZH) :=
  if (nI 4) ≤ x7 then (self155 (x5, (x6 + (nI 1)), h)) else
  ((gR h 11 x0 13).bind fun v2 =>
  (gR h 11 x0 37).bind fun v3 =>
  (lI h 14 v3 x6).bind fun v4 =>
  if (nI 256) = 0 then none else
  (lI h 14 v2 (((nI 4) * (v4 / (nI 256))) + x7)).bind fun v5 =>
  (gR h 11 x0 36).bind fun v6 =>
  (gR h 11 x0 37).bind fun v7 =>
  (lI h 14 v7 x6).bind fun v8 =>
  if (nI 256) = 0 then none else
  (lI h 14 v6 (((nI 4) * (jrem v8 (nI 256))) + x7)).bind fun v9 =>
  zl (((nI 256) * v5) + v9) fun v10 =>
  if v10 = 0 then (bX11_writeDifference_294 self155 self165 x0 x4 x5 x6 x7 h) else
  ((gR h 11 x0 38).bind fun v12 =>
  (lI h 14 v12 v10).bind fun v13 =>
  if v13 = (-1 : Int32) then ((gR h 11 x0 38).bind fun v15 =>
  (gR h 11 x0 37).bind fun v16 =>
  (lI h 14 v16 x6).bind fun v17 =>
  (sI h 14 v15 v10 (((nI 4) * v17) + x7)).bind fun h18 =>
  (gR h18 11 x0 37).bind fun v19 =>
  (sI h18 14 v19 x5 v10).bind fun h20 =>
  if v5 = 0 then (bX11_writeDifference_285 x0 x4 v10 h20) else
  (if v9 = 0 then (bX11_writeDifference_285 x0 x4 v10 h20) else
  (bX11_writeDifference_294 self155 self165 x0 x4 (x5 + (nI 1)) x6 x7 h20))) else
  (bX11_writeDifference_294 self155 self165 x0 x4 x5 x6 x7 h)))
def lX11_writeDifference_165 (self155 : Int32 × Int32 × ZH → Option (Int32 × ZH)) (x0 : Nat) (x4 : Int32) (x6 : Int32) : (Int32 × Int32 × ZH → Option (Int32 × ZH)) → Int32 × Int32 × ZH → Option (Int32 × ZH) := fun self s => kX11_writeDifference_165 self155 x0 x4 x6 self s.1 s.2.1 s.2.2
theorem KX11_writeDifference_165 (b0 : Nat) (self155 : Int32 × Int32 × ZH → Option (Int32 × ZH)) (x0 : Nat) (x4 : Int32) (x6 : Int32) (hself155 : ∀ (y5 : Int32) (y6 : Int32) (hh : ZH), Zr zi b0 YX11_writeDifference 5 155 [(0, .ref (b0 + x0)), (4, .int x4), (5, .int y5), (6, .int y6)] [] hh (self155 (y5, y6, hh))) (self165 : Int32 × Int32 × ZH → Option (Int32 × ZH)) (hself165 : ∀ (y5 : Int32) (y7 : Int32) (hh : ZH), Zr zi b0 YX11_writeDifference 5 165 [(0, .ref (b0 + x0)), (4, .int x4), (6, .int x6), (5, .int y5), (7, .int y7)] [] hh (self165 (y5, y7, hh))) (x5 : Int32) (x7 : Int32) (h : ZH) : Zr zi b0 YX11_writeDifference 5 165 [(0, .ref (b0 + x0)), (4, .int x4), (6, .int x6), (5, .int x5), (7, .int x7)] [] h (kX11_writeDifference_165 self155 x0 x4 x6 self165 x5 x7 h) := by
  unfold kX11_writeDifference_165
  refine z_iload 167 4 dX11_writeDifference_165 rfl rfl ?_
  refine z_iconst (nI 4) 168 zki_4 dX11_writeDifference_167 rfl ?_
  refine z_icmp_ge 300 171 dX11_writeDifference_168 (by decide) rfl (fun c1 => ?_) (fun c1 => ?_)
  · refine z_iinc (lv2 := [(6, .int (x6 + (nI 1))), (0, .ref (b0 + x0)), (4, .int x4), (5, .int x5), (7, .int x7)]) (nI 1) 303 2 dX11_writeDifference_300 rfl rfl zki_1 (Nat.le_of_ble_eq_true rfl) rfl ?_
    refine z_goto 155 dX11_writeDifference_303 (by decide) ?_
    exact z_sub [1, 2, 3, 0] rfl (hself155 x5 (x6 + (nI 1)) h)
  · refine z_aload_n 172 0 dX11_writeDifference_171 rfl rfl ?_
    refine z_getR 175 zC11 (Nat.le_of_ble_eq_true rfl) rfl w_1030 dX11_writeDifference_172 rfl (fun v2 _ => ?_)
    refine z_iconst (nI 4) 176 zki_4 dX11_writeDifference_175 rfl ?_
    refine z_aload_n 177 0 dX11_writeDifference_176 rfl rfl ?_
    refine z_getR 180 zC11 (Nat.le_of_ble_eq_true rfl) rfl w_1054 dX11_writeDifference_177 rfl (fun v3 _ => ?_)
    refine z_iload 182 2 dX11_writeDifference_180 rfl rfl ?_
    refine z_iaload 183 dX11_writeDifference_182 rfl (fun v4 _ => ?_)
    refine z_sipush (nI 256) 186 zks_256 dX11_writeDifference_183 rfl ?_
    refine z_idiv 187 dX11_writeDifference_186 rfl (fun _ => ?_)
    refine z_imul 188 dX11_writeDifference_187 rfl ?_
    refine z_iload 190 4 dX11_writeDifference_188 rfl rfl ?_
    refine z_iadd 191 dX11_writeDifference_190 rfl ?_
    refine z_iaload 192 dX11_writeDifference_191 rfl (fun v5 _ => ?_)
    refine z_istore (lv2 := [(8, .int v5), (0, .ref (b0 + x0)), (4, .int x4), (6, .int x6), (5, .int x5), (7, .int x7)]) 194 dX11_writeDifference_192 rfl (Nat.le_of_ble_eq_true rfl) rfl ?_
    refine z_aload_n 195 1 dX11_writeDifference_194 rfl rfl ?_
    refine z_getR 198 zC11 (Nat.le_of_ble_eq_true rfl) rfl w_1053 dX11_writeDifference_195 rfl (fun v6 _ => ?_)
    refine z_iconst (nI 4) 199 zki_4 dX11_writeDifference_198 rfl ?_
    refine z_aload_n 200 1 dX11_writeDifference_199 rfl rfl ?_
    refine z_getR 203 zC11 (Nat.le_of_ble_eq_true rfl) rfl w_1054 dX11_writeDifference_200 rfl (fun v7 _ => ?_)
    refine z_iload 205 3 dX11_writeDifference_203 rfl rfl ?_
    refine z_iaload 206 dX11_writeDifference_205 rfl (fun v8 _ => ?_)
    refine z_sipush (nI 256) 209 zks_256 dX11_writeDifference_206 rfl ?_
    refine z_irem 210 dX11_writeDifference_209 rfl (fun _ => ?_)
    refine z_imul 211 dX11_writeDifference_210 rfl ?_
    refine z_iload 213 5 dX11_writeDifference_211 rfl rfl ?_
    refine z_iadd 214 dX11_writeDifference_213 rfl ?_
    refine z_iaload 215 dX11_writeDifference_214 rfl (fun v9 _ => ?_)
    refine z_istore (lv2 := [(9, .int v9), (8, .int v5), (0, .ref (b0 + x0)), (4, .int x4), (6, .int x6), (5, .int x5), (7, .int x7)]) 217 dX11_writeDifference_215 rfl (Nat.le_of_ble_eq_true rfl) rfl ?_
    refine z_sipush (nI 256) 220 zks_256 dX11_writeDifference_217 rfl ?_
    refine z_iload 222 1 dX11_writeDifference_220 rfl rfl ?_
    refine z_imul 223 dX11_writeDifference_222 rfl ?_
    refine z_iload 225 0 dX11_writeDifference_223 rfl rfl ?_
    refine z_iadd 226 dX11_writeDifference_225 rfl ?_
    refine z_letI (fun v10 _ => ?_)
    refine z_istore (lv2 := [(10, .int v10), (9, .int v9), (8, .int v5), (0, .ref (b0 + x0)), (4, .int x4), (6, .int x6), (5, .int x5), (7, .int x7)]) 228 dX11_writeDifference_226 rfl (Nat.le_of_ble_eq_true rfl) rfl ?_
    refine z_iload 230 0 dX11_writeDifference_228 rfl rfl ?_
    refine z_if_eq 294 233 dX11_writeDifference_230 (by decide) rfl (fun c11 => ?_) (fun c11 => ?_)
    · exact z_sub [3, 4, 6, 5, 7] rfl (BX11_writeDifference_294 b0 self155 self165 x0 x4 x5 x6 x7 h hself155 hself165)
    · refine z_aload_n 234 3 dX11_writeDifference_233 rfl rfl ?_
      refine z_getR 237 zC11 (Nat.le_of_ble_eq_true rfl) rfl w_1055 dX11_writeDifference_234 rfl (fun v12 _ => ?_)
      refine z_iload 239 0 dX11_writeDifference_237 rfl rfl ?_
      refine z_iaload 240 dX11_writeDifference_239 rfl (fun v13 _ => ?_)
      refine z_iconst (-1 : Int32) 241 zki_m1 dX11_writeDifference_240 rfl ?_
      refine z_icmp_ne 294 244 dX11_writeDifference_241 (by decide) rfl (fun c14 => ?_) (fun c14 => ?_)
      · exact z_sub [3, 4, 6, 5, 7] rfl (BX11_writeDifference_294 b0 self155 self165 x0 x4 x5 x6 x7 h hself155 hself165)
      · refine z_aload_n 245 3 dX11_writeDifference_244 rfl rfl ?_
        refine z_getR 248 zC11 (Nat.le_of_ble_eq_true rfl) rfl w_1055 dX11_writeDifference_245 rfl (fun v15 _ => ?_)
        refine z_iload 250 0 dX11_writeDifference_248 rfl rfl ?_
        refine z_iconst (nI 4) 251 zki_4 dX11_writeDifference_250 rfl ?_
        refine z_aload_n 252 3 dX11_writeDifference_251 rfl rfl ?_
        refine z_getR 255 zC11 (Nat.le_of_ble_eq_true rfl) rfl w_1054 dX11_writeDifference_252 rfl (fun v16 _ => ?_)
        refine z_iload 257 5 dX11_writeDifference_255 rfl rfl ?_
        refine z_iaload 258 dX11_writeDifference_257 rfl (fun v17 _ => ?_)
        refine z_imul 259 dX11_writeDifference_258 rfl ?_
        refine z_iload 261 7 dX11_writeDifference_259 rfl rfl ?_
        refine z_iadd 262 dX11_writeDifference_261 rfl ?_
        refine z_iastore 263 dX11_writeDifference_262 rfl (fun h18 _ => ?_)
        refine z_aload_n 264 3 dX11_writeDifference_263 rfl rfl ?_
        refine z_getR 267 zC11 (Nat.le_of_ble_eq_true rfl) rfl w_1054 dX11_writeDifference_264 rfl (fun v19 _ => ?_)
        refine z_iload 269 6 dX11_writeDifference_267 rfl rfl ?_
        refine z_iload 271 0 dX11_writeDifference_269 rfl rfl ?_
        refine z_iastore 272 dX11_writeDifference_271 rfl (fun h20 _ => ?_)
        refine z_iinc (lv2 := [(5, .int (x5 + (nI 1))), (10, .int v10), (9, .int v9), (8, .int v5), (0, .ref (b0 + x0)), (4, .int x4), (6, .int x6), (7, .int x7)]) (nI 1) 275 6 dX11_writeDifference_272 rfl rfl zki_1 (Nat.le_of_ble_eq_true rfl) rfl ?_
        refine z_iload 277 3 dX11_writeDifference_275 rfl rfl ?_
        refine z_if_eq 285 280 dX11_writeDifference_277 (by decide) rfl (fun c21 => ?_) (fun c21 => ?_)
        · exact z_sub [4, 5, 1] rfl (BX11_writeDifference_285 b0 x0 x4 v10 h20 )
        · refine z_iload 282 2 dX11_writeDifference_280 rfl rfl ?_
          refine z_if_ne 294 285 dX11_writeDifference_282 (by decide) rfl (fun c22 => ?_) (fun c22 => ?_)
          · exact z_sub [4, 5, 0, 6, 7] rfl (BX11_writeDifference_294 b0 self155 self165 x0 x4 (x5 + (nI 1)) x6 x7 h20 hself155 hself165)
          · exact z_sub [4, 5, 1] rfl (BX11_writeDifference_285 b0 x0 x4 v10 h20 )
theorem BX11_writeDifference_165 (b0 : Nat) (self155 : Int32 × Int32 × ZH → Option (Int32 × ZH)) (x0 : Nat) (x4 : Int32) (x6 : Int32) (hself155 : ∀ (y5 : Int32) (y6 : Int32) (hh : ZH), Zr zi b0 YX11_writeDifference 5 155 [(0, .ref (b0 + x0)), (4, .int x4), (5, .int y5), (6, .int y6)] [] hh (self155 (y5, y6, hh))) (n : Nat) (x5 : Int32) (x7 : Int32) (h : ZH) : Zr zi b0 YX11_writeDifference 5 165 [(0, .ref (b0 + x0)), (4, .int x4), (6, .int x6), (5, .int x5), (7, .int x7)] [] h (zloop (lX11_writeDifference_165 self155 x0 x4 x6) n (x5, x7, h)) :=
  zloop_Zr (fun s => [(0, .ref (b0 + x0)), (4, .int x4), (6, .int x6), (5, .int s.1), (7, .int s.2.1)]) (fun _ => []) (fun s => s.2.2) (lX11_writeDifference_165 self155 x0 x4 x6) (fun self hs s => KX11_writeDifference_165 b0 self155 x0 x4 x6 hself155 self (fun y5 y7 hh => hs (y5, y7, hh)) s.1 s.2.1 s.2.2) n (x5, x7, h)
def kX11_writeDifference_155 (x0 : Nat) (x4 : Int32) (self155 : Int32 × Int32 × ZH → Option (Int32 × ZH)) (x5 : Int32) (x6 : Int32) (h : ZH) : Option (Int32 × ZH) :=
  if x5 ≤ x6 then (some ((-1 : Int32), h)) else
  (zloop (lX11_writeDifference_165 self155 x0 x4 x6) zfu (x5, (nI 0), h))
def lX11_writeDifference_155 (x0 : Nat) (x4 : Int32) : (Int32 × Int32 × ZH → Option (Int32 × ZH)) → Int32 × Int32 × ZH → Option (Int32 × ZH) := fun self s => kX11_writeDifference_155 x0 x4 self s.1 s.2.1 s.2.2
theorem KX11_writeDifference_155 (b0 : Nat) (x0 : Nat) (x4 : Int32) (self155 : Int32 × Int32 × ZH → Option (Int32 × ZH)) (hself155 : ∀ (y5 : Int32) (y6 : Int32) (hh : ZH), Zr zi b0 YX11_writeDifference 5 155 [(0, .ref (b0 + x0)), (4, .int x4), (5, .int y5), (6, .int y6)] [] hh (self155 (y5, y6, hh))) (x5 : Int32) (x6 : Int32) (h : ZH) : Zr zi b0 YX11_writeDifference 5 155 [(0, .ref (b0 + x0)), (4, .int x4), (5, .int x5), (6, .int x6)] [] h (kX11_writeDifference_155 x0 x4 self155 x5 x6 h) := by
  unfold kX11_writeDifference_155
  refine z_iload 157 3 dX11_writeDifference_155 rfl rfl ?_
  refine z_iload 159 2 dX11_writeDifference_157 rfl rfl ?_
  refine z_icmp_ge 306 162 dX11_writeDifference_159 (by decide) rfl (fun c1 => ?_) (fun c1 => ?_)
  · refine z_iconst (-1 : Int32) 307 zki_m1 dX11_writeDifference_306 rfl ?_
    exact z_ireturn dX11_writeDifference_307 rfl
  · refine z_iconst (nI 0) 163 zki_0 dX11_writeDifference_162 rfl ?_
    refine z_istore (lv2 := [(7, .int (nI 0)), (0, .ref (b0 + x0)), (4, .int x4), (5, .int x5), (6, .int x6)]) 165 dX11_writeDifference_163 rfl (Nat.le_of_ble_eq_true rfl) rfl ?_
    exact z_sub [1, 2, 4, 3, 0] rfl (BX11_writeDifference_165 b0 self155 x0 x4 x6 hself155 zfu x5 (nI 0) h)
theorem BX11_writeDifference_155 (b0 : Nat) (x0 : Nat) (x4 : Int32) (n : Nat) (x5 : Int32) (x6 : Int32) (h : ZH) : Zr zi b0 YX11_writeDifference 5 155 [(0, .ref (b0 + x0)), (4, .int x4), (5, .int x5), (6, .int x6)] [] h (zloop (lX11_writeDifference_155 x0 x4) n (x5, x6, h)) :=
  zloop_Zr (fun s => [(0, .ref (b0 + x0)), (4, .int x4), (5, .int s.1), (6, .int s.2.1)]) (fun _ => []) (fun s => s.2.2) (lX11_writeDifference_155 x0 x4) (fun self hs s => KX11_writeDifference_155 b0 x0 x4 self (fun y5 y6 hh => hs (y5, y6, hh)) s.1 s.2.1 s.2.2) n (x5, x6, h)
def bX11_writeDifference_120 (x0 : Nat) (x4 : Int32) (t0 : Int32) (t1 : Int32) (h : ZH) : Option (Int32 × ZH) :=
  if t1 = t0 then ((gR h 11 x0 37).bind fun v2 =>
  (sI h 14 v2 (nI 0) x4).bind fun h3 =>
  (gR h3 11 x0 38).bind fun v4 =>
  (sI h3 14 v4 x4 (nI 0)).bind fun h5 =>
  zloop (lX11_writeDifference_155 x0 x4) zfu ((nI 1), (nI 0), h5)) else
  ((pI h 11 x0 12 (nI 0)).bind fun h6 =>
  (fX11_writeOut x0 h6).bind fun q7 =>
  some (q7.1, q7.2))
theorem BX11_writeDifference_120 (b0 : Nat) (x0 : Nat) (x4 : Int32) (t0 : Int32) (t1 : Int32) (h : ZH) : Zr zi b0 YX11_writeDifference 5 120 [(0, .ref (b0 + x0)), (4, .int x4)] [.int t0, .int t1] h (bX11_writeDifference_120 x0 x4 t0 t1 h) := by
  unfold bX11_writeDifference_120
  refine z_icmp_eq 133 123 dX11_writeDifference_120 (by decide) rfl (fun c1 => ?_) (fun c1 => ?_)
  · refine z_iconst (nI 1) 134 zki_1 dX11_writeDifference_133 rfl ?_
    refine z_istore (lv2 := [(5, .int (nI 1)), (0, .ref (b0 + x0)), (4, .int x4)]) 136 dX11_writeDifference_134 rfl (Nat.le_of_ble_eq_true rfl) rfl ?_
    refine z_aload_n 137 1 dX11_writeDifference_136 rfl rfl ?_
    refine z_getR 140 zC11 (Nat.le_of_ble_eq_true rfl) rfl w_1054 dX11_writeDifference_137 rfl (fun v2 _ => ?_)
    refine z_iconst (nI 0) 141 zki_0 dX11_writeDifference_140 rfl ?_
    refine z_iload 143 2 dX11_writeDifference_141 rfl rfl ?_
    refine z_iastore 144 dX11_writeDifference_143 rfl (fun h3 _ => ?_)
    refine z_aload_n 145 1 dX11_writeDifference_144 rfl rfl ?_
    refine z_getR 148 zC11 (Nat.le_of_ble_eq_true rfl) rfl w_1055 dX11_writeDifference_145 rfl (fun v4 _ => ?_)
    refine z_iload 150 2 dX11_writeDifference_148 rfl rfl ?_
    refine z_iconst (nI 0) 151 zki_0 dX11_writeDifference_150 rfl ?_
    refine z_iastore 152 dX11_writeDifference_151 rfl (fun h5 _ => ?_)
    refine z_iconst (nI 0) 153 zki_0 dX11_writeDifference_152 rfl ?_
    refine z_istore (lv2 := [(6, .int (nI 0)), (5, .int (nI 1)), (0, .ref (b0 + x0)), (4, .int x4)]) 155 dX11_writeDifference_153 rfl (Nat.le_of_ble_eq_true rfl) rfl ?_
    exact z_sub [2, 3, 1, 0] rfl (BX11_writeDifference_155 b0 x0 x4 zfu (nI 1) (nI 0) h5)
  · refine z_aload_n 124 0 dX11_writeDifference_123 rfl rfl ?_
    refine z_iconst (nI 0) 125 zki_0 dX11_writeDifference_124 rfl ?_
    refine z_putI 128 zC11 (Nat.le_of_ble_eq_true rfl) rfl rfl rfl w_1029 dX11_writeDifference_125 rfl (fun h6 _ => ?_)
    refine z_aload_n 129 0 dX11_writeDifference_128 rfl rfl ?_
    refine z_callVi 132 (mX11_writeOut b0 x0 h6) zyX11_writeOut rfl w_1295 (ci := 11) rfl (Nat.le_of_ble_eq_true rfl) (fun _ e9 => kX11_writeOut e9) wm_yX11_writeOut ws_yX11_writeOut (Nat.le_of_ble_eq_true rfl) rfl (Nat.le_of_ble_eq_true rfl) dX11_writeDifference_129 rfl (fun q7 => ?_)
    exact z_ireturn dX11_writeDifference_132 rfl
def bX11_writeDifference_111 (x0 : Nat) (x3 : Int32) (x4 : Int32) (t0 : Int32) (h : ZH) : Option (Int32 × ZH) :=
  if x3 = 0 then (bX11_writeDifference_120 x0 x4 (nI 1) t0 h) else
  (bX11_writeDifference_120 x0 x4 (nI 0) t0 h)
theorem BX11_writeDifference_111 (b0 : Nat) (x0 : Nat) (x3 : Int32) (x4 : Int32) (t0 : Int32) (h : ZH) : Zr zi b0 YX11_writeDifference 5 111 [(0, .ref (b0 + x0)), (3, .int x3), (4, .int x4)] [.int t0] h (bX11_writeDifference_111 x0 x3 x4 t0 h) := by
  unfold bX11_writeDifference_111
  refine z_iload_n 112 1 dX11_writeDifference_111 rfl rfl ?_
  refine z_if_ne 119 115 dX11_writeDifference_112 (by decide) rfl (fun c1 => ?_) (fun c1 => ?_)
  · refine z_iconst (nI 0) 120 zki_0 dX11_writeDifference_119 rfl ?_
    exact z_sub [0, 2] rfl (BX11_writeDifference_120 b0 x0 x4 (nI 0) t0 h )
  · refine z_iconst (nI 1) 116 zki_1 dX11_writeDifference_115 rfl ?_
    refine z_goto 120 dX11_writeDifference_116 (by decide) ?_
    exact z_sub [0, 2] rfl (BX11_writeDifference_120 b0 x0 x4 (nI 1) t0 h )
def kX11_writeDifference_66 (x0 : Nat) (x3 : Int32) (self66 : Int32 × ZH → Option (Int32 × ZH)) (x4 : Int32) (h : ZH) : Option (Int32 × ZH) :=
  if (65536 : Int32) ≤ x4 then ((gI h 11 x0 14).bind fun v2 =>
  zl (((nI 256) * v2) + x3) fun v3 =>
  (gI h 11 x0 14).bind fun v4 =>
  if v4 = 0 then (bX11_writeDifference_111 x0 x3 v3 (nI 1) h) else
  (bX11_writeDifference_111 x0 x3 v3 (nI 0) h)) else
  ((gR h 11 x0 38).bind fun v6 =>
  (sI h 14 v6 x4 (-1 : Int32)).bind fun h7 =>
  self66 ((x4 + (nI 1)), h7))
def lX11_writeDifference_66 (x0 : Nat) (x3 : Int32) : (Int32 × ZH → Option (Int32 × ZH)) → Int32 × ZH → Option (Int32 × ZH) := fun self s => kX11_writeDifference_66 x0 x3 self s.1 s.2
theorem KX11_writeDifference_66 (b0 : Nat) (x0 : Nat) (x3 : Int32) (self66 : Int32 × ZH → Option (Int32 × ZH)) (hself66 : ∀ (y4 : Int32) (hh : ZH), Zr zi b0 YX11_writeDifference 5 66 [(0, .ref (b0 + x0)), (3, .int x3), (4, .int y4)] [] hh (self66 (y4, hh))) (x4 : Int32) (h : ZH) : Zr zi b0 YX11_writeDifference 5 66 [(0, .ref (b0 + x0)), (3, .int x3), (4, .int x4)] [] h (kX11_writeDifference_66 x0 x3 self66 x4 h) := by
  unfold kX11_writeDifference_66
  refine z_iload 68 2 dX11_writeDifference_66 rfl rfl ?_
  refine z_ldc 70 w_1016 dX11_writeDifference_68 rfl ?_
  refine z_icmp_ge 87 73 dX11_writeDifference_70 (by decide) rfl (fun c1 => ?_) (fun c1 => ?_)
  · refine z_sipush (nI 256) 90 zks_256 dX11_writeDifference_87 rfl ?_
    refine z_aload_n 91 0 dX11_writeDifference_90 rfl rfl ?_
    refine z_getI 94 zC11 (Nat.le_of_ble_eq_true rfl) rfl w_1031 dX11_writeDifference_91 rfl (fun v2 _ => ?_)
    refine z_imul 95 dX11_writeDifference_94 rfl ?_
    refine z_iload_n 96 1 dX11_writeDifference_95 rfl rfl ?_
    refine z_iadd 97 dX11_writeDifference_96 rfl ?_
    refine z_letI (fun v3 _ => ?_)
    refine z_istore (lv2 := [(4, .int v3), (0, .ref (b0 + x0)), (3, .int x3)]) 99 dX11_writeDifference_97 rfl (Nat.le_of_ble_eq_true rfl) rfl ?_
    refine z_aload_n 100 1 dX11_writeDifference_99 rfl rfl ?_
    refine z_getI 103 zC11 (Nat.le_of_ble_eq_true rfl) rfl w_1031 dX11_writeDifference_100 rfl (fun v4 _ => ?_)
    refine z_if_ne 110 106 dX11_writeDifference_103 (by decide) rfl (fun c5 => ?_) (fun c5 => ?_)
    · refine z_iconst (nI 0) 111 zki_0 dX11_writeDifference_110 rfl ?_
      exact z_sub [1, 2, 0] rfl (BX11_writeDifference_111 b0 x0 x3 v3 (nI 0) h )
    · refine z_iconst (nI 1) 107 zki_1 dX11_writeDifference_106 rfl ?_
      refine z_goto 111 dX11_writeDifference_107 (by decide) ?_
      exact z_sub [1, 2, 0] rfl (BX11_writeDifference_111 b0 x0 x3 v3 (nI 1) h )
  · refine z_aload_n 74 0 dX11_writeDifference_73 rfl rfl ?_
    refine z_getR 77 zC11 (Nat.le_of_ble_eq_true rfl) rfl w_1055 dX11_writeDifference_74 rfl (fun v6 _ => ?_)
    refine z_iload 79 2 dX11_writeDifference_77 rfl rfl ?_
    refine z_iconst (-1 : Int32) 80 zki_m1 dX11_writeDifference_79 rfl ?_
    refine z_iastore 81 dX11_writeDifference_80 rfl (fun h7 _ => ?_)
    refine z_iinc (lv2 := [(4, .int (x4 + (nI 1))), (0, .ref (b0 + x0)), (3, .int x3)]) (nI 1) 84 2 dX11_writeDifference_81 rfl rfl zki_1 (Nat.le_of_ble_eq_true rfl) rfl ?_
    refine z_goto 66 dX11_writeDifference_84 (by decide) ?_
    exact z_sub [1, 2, 0] rfl (hself66 (x4 + (nI 1)) h7)
theorem BX11_writeDifference_66 (b0 : Nat) (x0 : Nat) (x3 : Int32) (n : Nat) (x4 : Int32) (h : ZH) : Zr zi b0 YX11_writeDifference 5 66 [(0, .ref (b0 + x0)), (3, .int x3), (4, .int x4)] [] h (zloop (lX11_writeDifference_66 x0 x3) n (x4, h)) :=
  zloop_Zr (fun s => [(0, .ref (b0 + x0)), (3, .int x3), (4, .int s.1)]) (fun _ => []) (fun s => s.2) (lX11_writeDifference_66 x0 x3) (fun self hs s => KX11_writeDifference_66 b0 x0 x3 self (fun y4 hh => hs (y4, hh)) s.1 s.2) n (x4, h)
def kX11_writeDifference_30 (x0 : Nat) (x1 : Int32) (x3 : Int32) (self30 : Int32 × ZH → Option (Int32 × ZH)) (x4 : Int32) (h : ZH) : Option (Int32 × ZH) :=
  if (nI 1024) ≤ x4 then ((fX11_prepare x0 x1 h).bind fun h2 =>
  zloop (lX11_writeDifference_66 x0 x3) zfu ((nI 0), h2)) else
  ((gR h 11 x0 36).bind fun v3 =>
  (gR h 11 x0 13).bind fun v4 =>
  (lI h 14 v4 x4).bind fun v5 =>
  (sI h 14 v3 x4 v5).bind fun h6 =>
  self30 ((x4 + (nI 1)), h6))
def lX11_writeDifference_30 (x0 : Nat) (x1 : Int32) (x3 : Int32) : (Int32 × ZH → Option (Int32 × ZH)) → Int32 × ZH → Option (Int32 × ZH) := fun self s => kX11_writeDifference_30 x0 x1 x3 self s.1 s.2
theorem KX11_writeDifference_30 (b0 : Nat) (x0 : Nat) (x1 : Int32) (x3 : Int32) (self30 : Int32 × ZH → Option (Int32 × ZH)) (hself30 : ∀ (y4 : Int32) (hh : ZH), Zr zi b0 YX11_writeDifference 5 30 [(0, .ref (b0 + x0)), (1, .int x1), (3, .int x3), (4, .int y4)] [] hh (self30 (y4, hh))) (x4 : Int32) (h : ZH) : Zr zi b0 YX11_writeDifference 5 30 [(0, .ref (b0 + x0)), (1, .int x1), (3, .int x3), (4, .int x4)] [] h (kX11_writeDifference_30 x0 x1 x3 self30 x4 h) := by
  unfold kX11_writeDifference_30
  refine z_iload 32 3 dX11_writeDifference_30 rfl rfl ?_
  refine z_sipush (nI 1024) 35 zks_1024 dX11_writeDifference_32 rfl ?_
  refine z_icmp_ge 58 38 dX11_writeDifference_35 (by decide) rfl (fun c1 => ?_) (fun c1 => ?_)
  · refine z_aload_n 59 0 dX11_writeDifference_58 rfl rfl ?_
    refine z_iload_n 60 1 dX11_writeDifference_59 rfl rfl ?_
    refine z_callVv 63 (mX11_prepare b0 x0 x1 h) zyX11_prepare rfl w_1263 (ci := 11) rfl (Nat.le_of_ble_eq_true rfl) (fun _ e9 => kX11_prepare e9) wm_yX11_prepare ws_yX11_prepare (Nat.le_of_ble_eq_true rfl) rfl (Nat.le_of_ble_eq_true rfl) dX11_writeDifference_60 rfl (fun h2 => ?_)
    refine z_iconst (nI 0) 64 zki_0 dX11_writeDifference_63 rfl ?_
    refine z_istore (lv2 := [(4, .int (nI 0)), (0, .ref (b0 + x0)), (1, .int x1), (3, .int x3)]) 66 dX11_writeDifference_64 rfl (Nat.le_of_ble_eq_true rfl) rfl ?_
    exact z_sub [1, 3, 0] rfl (BX11_writeDifference_66 b0 x0 x3 zfu (nI 0) h2)
  · refine z_aload_n 39 0 dX11_writeDifference_38 rfl rfl ?_
    refine z_getR 42 zC11 (Nat.le_of_ble_eq_true rfl) rfl w_1053 dX11_writeDifference_39 rfl (fun v3 _ => ?_)
    refine z_iload 44 3 dX11_writeDifference_42 rfl rfl ?_
    refine z_aload_n 45 0 dX11_writeDifference_44 rfl rfl ?_
    refine z_getR 48 zC11 (Nat.le_of_ble_eq_true rfl) rfl w_1030 dX11_writeDifference_45 rfl (fun v4 _ => ?_)
    refine z_iload 50 3 dX11_writeDifference_48 rfl rfl ?_
    refine z_iaload 51 dX11_writeDifference_50 rfl (fun v5 _ => ?_)
    refine z_iastore 52 dX11_writeDifference_51 rfl (fun h6 _ => ?_)
    refine z_iinc (lv2 := [(4, .int (x4 + (nI 1))), (0, .ref (b0 + x0)), (1, .int x1), (3, .int x3)]) (nI 1) 55 3 dX11_writeDifference_52 rfl rfl zki_1 (Nat.le_of_ble_eq_true rfl) rfl ?_
    refine z_goto 30 dX11_writeDifference_55 (by decide) ?_
    exact z_sub [1, 2, 3, 0] rfl (hself30 (x4 + (nI 1)) h6)
theorem BX11_writeDifference_30 (b0 : Nat) (x0 : Nat) (x1 : Int32) (x3 : Int32) (n : Nat) (x4 : Int32) (h : ZH) : Zr zi b0 YX11_writeDifference 5 30 [(0, .ref (b0 + x0)), (1, .int x1), (3, .int x3), (4, .int x4)] [] h (zloop (lX11_writeDifference_30 x0 x1 x3) n (x4, h)) :=
  zloop_Zr (fun s => [(0, .ref (b0 + x0)), (1, .int x1), (3, .int x3), (4, .int s.1)]) (fun _ => []) (fun s => s.2) (lX11_writeDifference_30 x0 x1 x3) (fun self hs s => KX11_writeDifference_30 b0 x0 x1 x3 self (fun y4 hh => hs (y4, hh)) s.1 s.2) n (x4, h)
def bX11_writeDifference_14 (h : ZH) : Option (Int32 × ZH) :=
  some ((-2 : Int32), h)
theorem BX11_writeDifference_14 (b0 : Nat) (h : ZH) : Zr zi b0 YX11_writeDifference 5 14 [] [] h (bX11_writeDifference_14 h) := by
  unfold bX11_writeDifference_14
  refine z_bipush (-2 : Int32) 16 zkb_m2 dX11_writeDifference_14 rfl ?_
  exact z_ireturn dX11_writeDifference_16 rfl
def fX11_writeDifference (x0 : Nat) (x1 : Int32) (x2 : Int32) (h : ZH) : Option (Int32 × ZH) :=
  if x0 < zn h ∧ zK h x0 = 11 then ((fX11_isSlot x1 h).bind fun q1 =>
  if q1.1 = 0 then (bX11_writeDifference_14 q1.2) else
  ((fX11_isSlot x2 q1.2).bind fun q3 =>
  if q3.1 = 0 then (bX11_writeDifference_14 q3.2) else
  ((fX11_prepare x0 x2 q3.2).bind fun h5 =>
  (gI h5 11 x0 14).bind fun v6 =>
  zloop (lX11_writeDifference_30 x0 x1 v6) zfu ((nI 0), h5)))) else none
theorem kX11_writeDifference {x0 : Nat} {x1 : Int32} {x2 : Int32} {h : ZH} {x : Int32 × ZH} (e : fX11_writeDifference x0 x1 x2 h = some x) : x0 < zn h ∧ zK h x0 = 11 := by
  unfold fX11_writeDifference at e
  exact zguard e
theorem mX11_writeDifference (b0 : Nat) (x0 : Nat) (x1 : Int32) (x2 : Int32) (h : ZH) : ZM zi b0 YX11_writeDifference 5 [.ref (b0 + x0), .int x1, .int x2] h (fX11_writeDifference x0 x1 x2 h) := by
  unfold fX11_writeDifference
  refine ZM.of (by decide) rfl (Nat.le_of_ble_eq_true rfl) (fun _ => trivial) ?_
  refine z_sub (lv2 := [(0, .ref (b0 + x0)), (1, .int x1), (2, .int x2)]) [0, 1, 2] rfl ?_
  refine z_guard (fun _ => ?_)
  refine z_iload_n 1 1 dX11_writeDifference_0 rfl rfl ?_
  refine z_callSi 4 (mX11_isSlot b0 x1 h) zyX11_isSlot rfl w_1154 wt_yX11_isSlot (Nat.le_of_ble_eq_true rfl) rfl (Nat.le_of_ble_eq_true rfl) dX11_writeDifference_1 rfl (fun q1 => ?_)
  refine z_if_eq 14 7 dX11_writeDifference_4 (by decide) rfl (fun c2 => ?_) (fun c2 => ?_)
  · exact z_sub [] rfl (BX11_writeDifference_14 b0 q1.2 )
  · refine z_iload_n 8 2 dX11_writeDifference_7 rfl rfl ?_
    refine z_callSi 11 (mX11_isSlot b0 x2 q1.2) zyX11_isSlot rfl w_1154 wt_yX11_isSlot (Nat.le_of_ble_eq_true rfl) rfl (Nat.le_of_ble_eq_true rfl) dX11_writeDifference_8 rfl (fun q3 => ?_)
    refine z_if_ne 17 14 dX11_writeDifference_11 (by decide) rfl (fun c4 => ?_) (fun c4 => ?_)
    · refine z_aload_n 18 0 dX11_writeDifference_17 rfl rfl ?_
      refine z_iload_n 19 2 dX11_writeDifference_18 rfl rfl ?_
      refine z_callVv 22 (mX11_prepare b0 x0 x2 q3.2) zyX11_prepare rfl w_1263 (ci := 11) rfl (Nat.le_of_ble_eq_true rfl) (fun _ e9 => kX11_prepare e9) wm_yX11_prepare ws_yX11_prepare (Nat.le_of_ble_eq_true rfl) rfl (Nat.le_of_ble_eq_true rfl) dX11_writeDifference_19 rfl (fun h5 => ?_)
      refine z_aload_n 23 0 dX11_writeDifference_22 rfl rfl ?_
      refine z_getI 26 zC11 (Nat.le_of_ble_eq_true rfl) rfl w_1031 dX11_writeDifference_23 rfl (fun v6 _ => ?_)
      refine z_istore_n (lv2 := [(3, .int v6), (0, .ref (b0 + x0)), (1, .int x1), (2, .int x2)]) 27 dX11_writeDifference_26 rfl (Nat.le_of_ble_eq_true rfl) rfl ?_
      refine z_iconst (nI 0) 28 zki_0 dX11_writeDifference_27 rfl ?_
      refine z_istore (lv2 := [(4, .int (nI 0)), (3, .int v6), (0, .ref (b0 + x0)), (1, .int x1), (2, .int x2)]) 30 dX11_writeDifference_28 rfl (Nat.le_of_ble_eq_true rfl) rfl ?_
      exact z_sub [2, 3, 1, 0] rfl (BX11_writeDifference_30 b0 x0 x1 v6 zfu (nI 0) h5)
    · exact z_sub [] rfl (BX11_writeDifference_14 b0 q3.2 )
-- X11_append
def kX11_append_47 (self12 : Int32 × ZH → Option (Int32 × ZH)) (self23 : Int32 × ZH → Option (Int32 × ZH)) (x0 : Nat) (x1 : Int32) (x2 : Int32) (x3 : Int32) (x4 : Int32) (x5 : Int32) (self47 : Int32 × ZH → Option (Int32 × ZH)) (x6 : Int32) (h : ZH) : Option (Int32 × ZH) :=
  (gI h 11 x0 17).bind fun v1 =>
  if v1 ≤ x6 then (self23 ((x4 + (nI 1)), h)) else
  ((gR h 11 x0 1).bind fun v3 =>
  zl (((nI 4) * (x2 + x3)) + x4) fun v4 =>
  (lI h 14 v3 v4).bind fun v5 =>
  (gR h 11 x0 16).bind fun v6 =>
  (lI h 14 v6 x6).bind fun v7 =>
  (sI h 14 v3 v4 (v5 ||| (jshl ((jshr x5 v7) &&& (nI 1)) (x2 + x6)))).bind fun h8 =>
  self47 ((x6 + (nI 1)), h8))
def lX11_append_47 (self12 : Int32 × ZH → Option (Int32 × ZH)) (self23 : Int32 × ZH → Option (Int32 × ZH)) (x0 : Nat) (x1 : Int32) (x2 : Int32) (x3 : Int32) (x4 : Int32) (x5 : Int32) : (Int32 × ZH → Option (Int32 × ZH)) → Int32 × ZH → Option (Int32 × ZH) := fun self s => kX11_append_47 self12 self23 x0 x1 x2 x3 x4 x5 self s.1 s.2
theorem KX11_append_47 (b0 : Nat) (self12 : Int32 × ZH → Option (Int32 × ZH)) (self23 : Int32 × ZH → Option (Int32 × ZH)) (x0 : Nat) (x1 : Int32) (x2 : Int32) (x3 : Int32) (x4 : Int32) (x5 : Int32) (hself12 : ∀ (y3 : Int32) (hh : ZH), Zr zi b0 YX11_append 4 12 [(0, .ref (b0 + x0)), (1, .int x1), (2, .int x2), (3, .int y3)] [] hh (self12 (y3, hh))) (hself23 : ∀ (y4 : Int32) (hh : ZH), Zr zi b0 YX11_append 4 23 [(0, .ref (b0 + x0)), (1, .int x1), (2, .int x2), (3, .int x3), (4, .int y4)] [] hh (self23 (y4, hh))) (self47 : Int32 × ZH → Option (Int32 × ZH)) (hself47 : ∀ (y6 : Int32) (hh : ZH), Zr zi b0 YX11_append 4 47 [(0, .ref (b0 + x0)), (1, .int x1), (2, .int x2), (3, .int x3), (4, .int x4), (5, .int x5), (6, .int y6)] [] hh (self47 (y6, hh))) (x6 : Int32) (h : ZH) : Zr zi b0 YX11_append 4 47 [(0, .ref (b0 + x0)), (1, .int x1), (2, .int x2), (3, .int x3), (4, .int x4), (5, .int x5), (6, .int x6)] [] h (kX11_append_47 self12 self23 x0 x1 x2 x3 x4 x5 self47 x6 h) := by
  unfold kX11_append_47
  refine z_iload 49 6 dX11_append_47 rfl rfl ?_
  refine z_aload_n 50 0 dX11_append_49 rfl rfl ?_
  refine z_getI 53 zC11 (Nat.le_of_ble_eq_true rfl) rfl w_1034 dX11_append_50 rfl (fun v1 _ => ?_)
  refine z_icmp_ge 95 56 dX11_append_53 (by decide) rfl (fun c2 => ?_) (fun c2 => ?_)
  · refine z_iinc (lv2 := [(4, .int (x4 + (nI 1))), (0, .ref (b0 + x0)), (1, .int x1), (2, .int x2), (3, .int x3), (5, .int x5), (6, .int x6)]) (nI 1) 98 4 dX11_append_95 rfl rfl zki_1 (Nat.le_of_ble_eq_true rfl) rfl ?_
    refine z_goto 23 dX11_append_98 (by decide) ?_
    exact z_sub [1, 2, 3, 4, 0] rfl (hself23 (x4 + (nI 1)) h)
  · refine z_aload_n 57 0 dX11_append_56 rfl rfl ?_
    refine z_getR 60 zC11 (Nat.le_of_ble_eq_true rfl) rfl w_1018 dX11_append_57 rfl (fun v3 _ => ?_)
    refine z_iconst (nI 4) 61 zki_4 dX11_append_60 rfl ?_
    refine z_iload_n 62 2 dX11_append_61 rfl rfl ?_
    refine z_iload_n 63 3 dX11_append_62 rfl rfl ?_
    refine z_iadd 64 dX11_append_63 rfl ?_
    refine z_imul 65 dX11_append_64 rfl ?_
    refine z_iload 67 4 dX11_append_65 rfl rfl ?_
    refine z_iadd 68 dX11_append_67 rfl ?_
    refine z_letI (fun v4 _ => ?_)
    refine z_dup2 69 rfl rfl dX11_append_68 rfl ?_
    refine z_iaload 70 dX11_append_69 rfl (fun v5 _ => ?_)
    refine z_iload 72 5 dX11_append_70 rfl rfl ?_
    refine z_aload_n 73 0 dX11_append_72 rfl rfl ?_
    refine z_getR 76 zC11 (Nat.le_of_ble_eq_true rfl) rfl w_1033 dX11_append_73 rfl (fun v6 _ => ?_)
    refine z_iload 78 6 dX11_append_76 rfl rfl ?_
    refine z_iaload 79 dX11_append_78 rfl (fun v7 _ => ?_)
    refine z_ishr 80 dX11_append_79 rfl ?_
    refine z_iconst (nI 1) 81 zki_1 dX11_append_80 rfl ?_
    refine z_iand 82 dX11_append_81 rfl ?_
    refine z_iload_n 83 2 dX11_append_82 rfl rfl ?_
    refine z_iload 85 6 dX11_append_83 rfl rfl ?_
    refine z_iadd 86 dX11_append_85 rfl ?_
    refine z_ishl 87 dX11_append_86 rfl ?_
    refine z_ior 88 dX11_append_87 rfl ?_
    refine z_iastore 89 dX11_append_88 rfl (fun h8 _ => ?_)
    refine z_iinc (lv2 := [(6, .int (x6 + (nI 1))), (0, .ref (b0 + x0)), (1, .int x1), (2, .int x2), (3, .int x3), (4, .int x4), (5, .int x5)]) (nI 1) 92 6 dX11_append_89 rfl rfl zki_1 (Nat.le_of_ble_eq_true rfl) rfl ?_
    refine z_goto 47 dX11_append_92 (by decide) ?_
    exact z_sub [1, 2, 3, 4, 5, 6, 0] rfl (hself47 (x6 + (nI 1)) h8)
theorem BX11_append_47 (b0 : Nat) (self12 : Int32 × ZH → Option (Int32 × ZH)) (self23 : Int32 × ZH → Option (Int32 × ZH)) (x0 : Nat) (x1 : Int32) (x2 : Int32) (x3 : Int32) (x4 : Int32) (x5 : Int32) (hself12 : ∀ (y3 : Int32) (hh : ZH), Zr zi b0 YX11_append 4 12 [(0, .ref (b0 + x0)), (1, .int x1), (2, .int x2), (3, .int y3)] [] hh (self12 (y3, hh))) (hself23 : ∀ (y4 : Int32) (hh : ZH), Zr zi b0 YX11_append 4 23 [(0, .ref (b0 + x0)), (1, .int x1), (2, .int x2), (3, .int x3), (4, .int y4)] [] hh (self23 (y4, hh))) (n : Nat) (x6 : Int32) (h : ZH) : Zr zi b0 YX11_append 4 47 [(0, .ref (b0 + x0)), (1, .int x1), (2, .int x2), (3, .int x3), (4, .int x4), (5, .int x5), (6, .int x6)] [] h (zloop (lX11_append_47 self12 self23 x0 x1 x2 x3 x4 x5) n (x6, h)) :=
  zloop_Zr (fun s => [(0, .ref (b0 + x0)), (1, .int x1), (2, .int x2), (3, .int x3), (4, .int x4), (5, .int x5), (6, .int s.1)]) (fun _ => []) (fun s => s.2) (lX11_append_47 self12 self23 x0 x1 x2 x3 x4 x5) (fun self hs s => KX11_append_47 b0 self12 self23 x0 x1 x2 x3 x4 x5 hself12 hself23 self (fun y6 hh => hs (y6, hh)) s.1 s.2) n (x6, h)
def kX11_append_23 (self12 : Int32 × ZH → Option (Int32 × ZH)) (x0 : Nat) (x1 : Int32) (x2 : Int32) (x3 : Int32) (self23 : Int32 × ZH → Option (Int32 × ZH)) (x4 : Int32) (h : ZH) : Option (Int32 × ZH) :=
  if (nI 4) ≤ x4 then (self12 ((x3 + (nI 1)), h)) else
  ((gR h 11 x0 16).bind fun v2 =>
  (lI h 14 v2 x3).bind fun v3 =>
  (fX11_to x0 x1 v3 x4 h).bind fun q4 =>
  zloop (lX11_append_47 self12 self23 x0 x1 x2 x3 x4 q4.1) zfu ((nI 0), q4.2))
def lX11_append_23 (self12 : Int32 × ZH → Option (Int32 × ZH)) (x0 : Nat) (x1 : Int32) (x2 : Int32) (x3 : Int32) : (Int32 × ZH → Option (Int32 × ZH)) → Int32 × ZH → Option (Int32 × ZH) := fun self s => kX11_append_23 self12 x0 x1 x2 x3 self s.1 s.2
theorem KX11_append_23 (b0 : Nat) (self12 : Int32 × ZH → Option (Int32 × ZH)) (x0 : Nat) (x1 : Int32) (x2 : Int32) (x3 : Int32) (hself12 : ∀ (y3 : Int32) (hh : ZH), Zr zi b0 YX11_append 4 12 [(0, .ref (b0 + x0)), (1, .int x1), (2, .int x2), (3, .int y3)] [] hh (self12 (y3, hh))) (self23 : Int32 × ZH → Option (Int32 × ZH)) (hself23 : ∀ (y4 : Int32) (hh : ZH), Zr zi b0 YX11_append 4 23 [(0, .ref (b0 + x0)), (1, .int x1), (2, .int x2), (3, .int x3), (4, .int y4)] [] hh (self23 (y4, hh))) (x4 : Int32) (h : ZH) : Zr zi b0 YX11_append 4 23 [(0, .ref (b0 + x0)), (1, .int x1), (2, .int x2), (3, .int x3), (4, .int x4)] [] h (kX11_append_23 self12 x0 x1 x2 x3 self23 x4 h) := by
  unfold kX11_append_23
  refine z_iload 25 4 dX11_append_23 rfl rfl ?_
  refine z_iconst (nI 4) 26 zki_4 dX11_append_25 rfl ?_
  refine z_icmp_ge 101 29 dX11_append_26 (by decide) rfl (fun c1 => ?_) (fun c1 => ?_)
  · refine z_iinc (lv2 := [(3, .int (x3 + (nI 1))), (0, .ref (b0 + x0)), (1, .int x1), (2, .int x2), (4, .int x4)]) (nI 1) 104 3 dX11_append_101 rfl rfl zki_1 (Nat.le_of_ble_eq_true rfl) rfl ?_
    refine z_goto 12 dX11_append_104 (by decide) ?_
    exact z_sub [1, 2, 3, 0] rfl (hself12 (x3 + (nI 1)) h)
  · refine z_aload_n 30 0 dX11_append_29 rfl rfl ?_
    refine z_iload_n 31 1 dX11_append_30 rfl rfl ?_
    refine z_aload_n 32 0 dX11_append_31 rfl rfl ?_
    refine z_getR 35 zC11 (Nat.le_of_ble_eq_true rfl) rfl w_1033 dX11_append_32 rfl (fun v2 _ => ?_)
    refine z_iload_n 36 3 dX11_append_35 rfl rfl ?_
    refine z_iaload 37 dX11_append_36 rfl (fun v3 _ => ?_)
    refine z_iload 39 4 dX11_append_37 rfl rfl ?_
    refine z_callVi 42 (mX11_to b0 x0 x1 v3 x4 h) zyX11_to rfl w_1183 (ci := 11) rfl (Nat.le_of_ble_eq_true rfl) (fun _ e9 => kX11_to e9) wm_yX11_to ws_yX11_to (Nat.le_of_ble_eq_true rfl) rfl (Nat.le_of_ble_eq_true rfl) dX11_append_39 rfl (fun q4 => ?_)
    refine z_istore (lv2 := [(5, .int q4.1), (0, .ref (b0 + x0)), (1, .int x1), (2, .int x2), (3, .int x3), (4, .int x4)]) 44 dX11_append_42 rfl (Nat.le_of_ble_eq_true rfl) rfl ?_
    refine z_iconst (nI 0) 45 zki_0 dX11_append_44 rfl ?_
    refine z_istore (lv2 := [(6, .int (nI 0)), (5, .int q4.1), (0, .ref (b0 + x0)), (1, .int x1), (2, .int x2), (3, .int x3), (4, .int x4)]) 47 dX11_append_45 rfl (Nat.le_of_ble_eq_true rfl) rfl ?_
    exact z_sub [2, 3, 4, 5, 6, 1, 0] rfl (BX11_append_47 b0 self12 self23 x0 x1 x2 x3 x4 q4.1 hself12 hself23 zfu (nI 0) q4.2)
theorem BX11_append_23 (b0 : Nat) (self12 : Int32 × ZH → Option (Int32 × ZH)) (x0 : Nat) (x1 : Int32) (x2 : Int32) (x3 : Int32) (hself12 : ∀ (y3 : Int32) (hh : ZH), Zr zi b0 YX11_append 4 12 [(0, .ref (b0 + x0)), (1, .int x1), (2, .int x2), (3, .int y3)] [] hh (self12 (y3, hh))) (n : Nat) (x4 : Int32) (h : ZH) : Zr zi b0 YX11_append 4 23 [(0, .ref (b0 + x0)), (1, .int x1), (2, .int x2), (3, .int x3), (4, .int x4)] [] h (zloop (lX11_append_23 self12 x0 x1 x2 x3) n (x4, h)) :=
  zloop_Zr (fun s => [(0, .ref (b0 + x0)), (1, .int x1), (2, .int x2), (3, .int x3), (4, .int s.1)]) (fun _ => []) (fun s => s.2) (lX11_append_23 self12 x0 x1 x2 x3) (fun self hs s => KX11_append_23 b0 self12 x0 x1 x2 x3 hself12 self (fun y4 hh => hs (y4, hh)) s.1 s.2) n (x4, h)
def kX11_append_12 (x0 : Nat) (x1 : Int32) (x2 : Int32) (self12 : Int32 × ZH → Option (Int32 × ZH)) (x3 : Int32) (h : ZH) : Option (Int32 × ZH) :=
  (gI h 11 x0 17).bind fun v1 =>
  if v1 ≤ x3 then ((gI h 11 x0 17).bind fun v3 =>
  some (v3, h)) else
  (zloop (lX11_append_23 self12 x0 x1 x2 x3) zfu ((nI 0), h))
def lX11_append_12 (x0 : Nat) (x1 : Int32) (x2 : Int32) : (Int32 × ZH → Option (Int32 × ZH)) → Int32 × ZH → Option (Int32 × ZH) := fun self s => kX11_append_12 x0 x1 x2 self s.1 s.2
theorem KX11_append_12 (b0 : Nat) (x0 : Nat) (x1 : Int32) (x2 : Int32) (self12 : Int32 × ZH → Option (Int32 × ZH)) (hself12 : ∀ (y3 : Int32) (hh : ZH), Zr zi b0 YX11_append 4 12 [(0, .ref (b0 + x0)), (1, .int x1), (2, .int x2), (3, .int y3)] [] hh (self12 (y3, hh))) (x3 : Int32) (h : ZH) : Zr zi b0 YX11_append 4 12 [(0, .ref (b0 + x0)), (1, .int x1), (2, .int x2), (3, .int x3)] [] h (kX11_append_12 x0 x1 x2 self12 x3 h) := by
  unfold kX11_append_12
  refine z_iload_n 13 3 dX11_append_12 rfl rfl ?_
  refine z_aload_n 14 0 dX11_append_13 rfl rfl ?_
  refine z_getI 17 zC11 (Nat.le_of_ble_eq_true rfl) rfl w_1034 dX11_append_14 rfl (fun v1 _ => ?_)
  refine z_icmp_ge 107 20 dX11_append_17 (by decide) rfl (fun c2 => ?_) (fun c2 => ?_)
  · refine z_aload_n 108 0 dX11_append_107 rfl rfl ?_
    refine z_getI 111 zC11 (Nat.le_of_ble_eq_true rfl) rfl w_1034 dX11_append_108 rfl (fun v3 _ => ?_)
    exact z_ireturn dX11_append_111 rfl
  · refine z_iconst (nI 0) 21 zki_0 dX11_append_20 rfl ?_
    refine z_istore (lv2 := [(4, .int (nI 0)), (0, .ref (b0 + x0)), (1, .int x1), (2, .int x2), (3, .int x3)]) 23 dX11_append_21 rfl (Nat.le_of_ble_eq_true rfl) rfl ?_
    exact z_sub [1, 2, 3, 4, 0] rfl (BX11_append_23 b0 self12 x0 x1 x2 x3 hself12 zfu (nI 0) h)
theorem BX11_append_12 (b0 : Nat) (x0 : Nat) (x1 : Int32) (x2 : Int32) (n : Nat) (x3 : Int32) (h : ZH) : Zr zi b0 YX11_append 4 12 [(0, .ref (b0 + x0)), (1, .int x1), (2, .int x2), (3, .int x3)] [] h (zloop (lX11_append_12 x0 x1 x2) n (x3, h)) :=
  zloop_Zr (fun s => [(0, .ref (b0 + x0)), (1, .int x1), (2, .int x2), (3, .int s.1)]) (fun _ => []) (fun s => s.2) (lX11_append_12 x0 x1 x2) (fun self hs s => KX11_append_12 b0 x0 x1 x2 self (fun y3 hh => hs (y3, hh)) s.1 s.2) n (x3, h)
def fX11_append (x0 : Nat) (x1 : Int32) (x2 : Int32) (h : ZH) : Option (Int32 × ZH) :=
  if x0 < zn h ∧ zK h x0 = 11 then ((fX11_essentialOf x0 x1 h).bind fun q1 =>
  (fX11_place x0 (q1.1.toInt64) q1.2).bind fun h2 =>
  zloop (lX11_append_12 x0 x1 x2) zfu ((nI 0), h2)) else none
theorem kX11_append {x0 : Nat} {x1 : Int32} {x2 : Int32} {h : ZH} {x : Int32 × ZH} (e : fX11_append x0 x1 x2 h = some x) : x0 < zn h ∧ zK h x0 = 11 := by
  unfold fX11_append at e
  exact zguard e
theorem mX11_append (b0 : Nat) (x0 : Nat) (x1 : Int32) (x2 : Int32) (h : ZH) : ZM zi b0 YX11_append 4 [.ref (b0 + x0), .int x1, .int x2] h (fX11_append x0 x1 x2 h) := by
  unfold fX11_append
  refine ZM.of (by decide) rfl (Nat.le_of_ble_eq_true rfl) (fun _ => trivial) ?_
  refine z_sub (lv2 := [(0, .ref (b0 + x0)), (1, .int x1), (2, .int x2)]) [0, 1, 2] rfl ?_
  refine z_guard (fun _ => ?_)
  refine z_aload_n 1 0 dX11_append_0 rfl rfl ?_
  refine z_aload_n 2 0 dX11_append_1 rfl rfl ?_
  refine z_iload_n 3 1 dX11_append_2 rfl rfl ?_
  refine z_callVi 6 (mX11_essentialOf b0 x0 x1 h) zyX11_essentialOf rfl w_1231 (ci := 11) rfl (Nat.le_of_ble_eq_true rfl) (fun _ e9 => kX11_essentialOf e9) wm_yX11_essentialOf ws_yX11_essentialOf (Nat.le_of_ble_eq_true rfl) rfl (Nat.le_of_ble_eq_true rfl) dX11_append_3 rfl (fun q1 => ?_)
  refine z_i2l 7 dX11_append_6 rfl ?_
  refine z_callVv 10 (mX11_place b0 x0 (q1.1.toInt64) q1.2) zyX11_place rfl w_1344 (ci := 11) rfl (Nat.le_of_ble_eq_true rfl) (fun _ e9 => kX11_place e9) wm_yX11_place ws_yX11_place (Nat.le_of_ble_eq_true rfl) rfl (Nat.le_of_ble_eq_true rfl) dX11_append_7 rfl (fun h2 => ?_)
  refine z_iconst (nI 0) 11 zki_0 dX11_append_10 rfl ?_
  refine z_istore_n (lv2 := [(3, .int (nI 0)), (0, .ref (b0 + x0)), (1, .int x1), (2, .int x2)]) 12 dX11_append_11 rfl (Nat.le_of_ble_eq_true rfl) rfl ?_
  exact z_sub [1, 2, 3, 0] rfl (BX11_append_12 b0 x0 x1 x2 zfu (nI 0) h2)
-- X11_union
def bX11_union_21 (h : ZH) : Option (Int32 × ZH) :=
  some ((-2 : Int32), h)
theorem BX11_union_21 (b0 : Nat) (h : ZH) : Zr zi b0 YX11_union 5 21 [] [] h (bX11_union_21 h) := by
  unfold bX11_union_21
  refine z_bipush (-2 : Int32) 23 zkb_m2 dX11_union_21 rfl ?_
  exact z_ireturn dX11_union_23 rfl
def fX11_union (x0 : Nat) (x1 : Int32) (x2 : Int32) (x3 : Int32) (h : ZH) : Option (Int32 × ZH) :=
  if x0 < zn h ∧ zK h x0 = 11 then ((fX11_isSlot x1 h).bind fun q1 =>
  if q1.1 = 0 then (bX11_union_21 q1.2) else
  ((fX11_isSlot x2 q1.2).bind fun q3 =>
  if q3.1 = 0 then (bX11_union_21 q3.2) else
  ((fX11_isSlot x3 q3.2).bind fun q5 =>
  if q5.1 = 0 then (bX11_union_21 q5.2) else
  ((fX11_essentialOf x0 x1 q5.2).bind fun q7 =>
  (fJ6_bitCount_0f7a4 q7.1 q7.2).bind fun q8 =>
  (fX11_essentialOf x0 x2 q8.2).bind fun q9 =>
  (fJ6_bitCount_0f7a4 q9.1 q9.2).bind fun q10 =>
  if (q8.1 + q10.1) ≤ (nI 8) then ((fX11_clearMade x0 q10.2).bind fun h12 =>
  (fX11_append x0 x1 (nI 0) h12).bind fun q13 =>
  (fX11_append x0 x2 q13.1 q13.2).bind fun q14 =>
  zl (q13.1 + q14.1) fun v15 =>
  (fX11_replace x0 x3 q14.2).bind fun h16 =>
  some (v15, h16)) else
  (some ((-3 : Int32), q10.2)))))) else none
theorem kX11_union {x0 : Nat} {x1 : Int32} {x2 : Int32} {x3 : Int32} {h : ZH} {x : Int32 × ZH} (e : fX11_union x0 x1 x2 x3 h = some x) : x0 < zn h ∧ zK h x0 = 11 := by
  unfold fX11_union at e
  exact zguard e
theorem mX11_union (b0 : Nat) (x0 : Nat) (x1 : Int32) (x2 : Int32) (x3 : Int32) (h : ZH) : ZM zi b0 YX11_union 5 [.ref (b0 + x0), .int x1, .int x2, .int x3] h (fX11_union x0 x1 x2 x3 h) := by
  unfold fX11_union
  refine ZM.of (by decide) rfl (Nat.le_of_ble_eq_true rfl) (fun _ => trivial) ?_
  refine z_sub (lv2 := [(0, .ref (b0 + x0)), (1, .int x1), (2, .int x2), (3, .int x3)]) [0, 1, 2, 3] rfl ?_
  refine z_guard (fun _ => ?_)
  refine z_iload_n 1 1 dX11_union_0 rfl rfl ?_
  refine z_callSi 4 (mX11_isSlot b0 x1 h) zyX11_isSlot rfl w_1154 wt_yX11_isSlot (Nat.le_of_ble_eq_true rfl) rfl (Nat.le_of_ble_eq_true rfl) dX11_union_1 rfl (fun q1 => ?_)
  refine z_if_eq 21 7 dX11_union_4 (by decide) rfl (fun c2 => ?_) (fun c2 => ?_)
  · exact z_sub [] rfl (BX11_union_21 b0 q1.2 )
  · refine z_iload_n 8 2 dX11_union_7 rfl rfl ?_
    refine z_callSi 11 (mX11_isSlot b0 x2 q1.2) zyX11_isSlot rfl w_1154 wt_yX11_isSlot (Nat.le_of_ble_eq_true rfl) rfl (Nat.le_of_ble_eq_true rfl) dX11_union_8 rfl (fun q3 => ?_)
    refine z_if_eq 21 14 dX11_union_11 (by decide) rfl (fun c4 => ?_) (fun c4 => ?_)
    · exact z_sub [] rfl (BX11_union_21 b0 q3.2 )
    · refine z_iload_n 15 3 dX11_union_14 rfl rfl ?_
      refine z_callSi 18 (mX11_isSlot b0 x3 q3.2) zyX11_isSlot rfl w_1154 wt_yX11_isSlot (Nat.le_of_ble_eq_true rfl) rfl (Nat.le_of_ble_eq_true rfl) dX11_union_15 rfl (fun q5 => ?_)
      refine z_if_ne 24 21 dX11_union_18 (by decide) rfl (fun c6 => ?_) (fun c6 => ?_)
      · refine z_aload_n 25 0 dX11_union_24 rfl rfl ?_
        refine z_iload_n 26 1 dX11_union_25 rfl rfl ?_
        refine z_callVi 29 (mX11_essentialOf b0 x0 x1 q5.2) zyX11_essentialOf rfl w_1231 (ci := 11) rfl (Nat.le_of_ble_eq_true rfl) (fun _ e9 => kX11_essentialOf e9) wm_yX11_essentialOf ws_yX11_essentialOf (Nat.le_of_ble_eq_true rfl) rfl (Nat.le_of_ble_eq_true rfl) dX11_union_26 rfl (fun q7 => ?_)
        refine z_callSi 32 (mJ6_bitCount_0f7a4 b0 q7.1 q7.2) zyJ6_bitCount_0f7a4 rfl w_1178 wt_yJ6_bitCount_0f7a4 (Nat.le_of_ble_eq_true rfl) rfl (Nat.le_of_ble_eq_true rfl) dX11_union_29 rfl (fun q8 => ?_)
        refine z_aload_n 33 0 dX11_union_32 rfl rfl ?_
        refine z_iload_n 34 2 dX11_union_33 rfl rfl ?_
        refine z_callVi 37 (mX11_essentialOf b0 x0 x2 q8.2) zyX11_essentialOf rfl w_1231 (ci := 11) rfl (Nat.le_of_ble_eq_true rfl) (fun _ e9 => kX11_essentialOf e9) wm_yX11_essentialOf ws_yX11_essentialOf (Nat.le_of_ble_eq_true rfl) rfl (Nat.le_of_ble_eq_true rfl) dX11_union_34 rfl (fun q9 => ?_)
        refine z_callSi 40 (mJ6_bitCount_0f7a4 b0 q9.1 q9.2) zyJ6_bitCount_0f7a4 rfl w_1178 wt_yJ6_bitCount_0f7a4 (Nat.le_of_ble_eq_true rfl) rfl (Nat.le_of_ble_eq_true rfl) dX11_union_37 rfl (fun q10 => ?_)
        refine z_iadd 41 dX11_union_40 rfl ?_
        refine z_bipush (nI 8) 43 zkb_8 dX11_union_41 rfl ?_
        refine z_icmp_le 49 46 dX11_union_43 (by decide) rfl (fun c11 => ?_) (fun c11 => ?_)
        · refine z_aload_n 50 0 dX11_union_49 rfl rfl ?_
          refine z_callVv 53 (mX11_clearMade b0 x0 q10.2) zyX11_clearMade rfl w_1203 (ci := 11) rfl (Nat.le_of_ble_eq_true rfl) (fun _ e9 => kX11_clearMade e9) wm_yX11_clearMade ws_yX11_clearMade (Nat.le_of_ble_eq_true rfl) rfl (Nat.le_of_ble_eq_true rfl) dX11_union_50 rfl (fun h12 => ?_)
          refine z_aload_n 54 0 dX11_union_53 rfl rfl ?_
          refine z_iload_n 55 1 dX11_union_54 rfl rfl ?_
          refine z_iconst (nI 0) 56 zki_0 dX11_union_55 rfl ?_
          refine z_callVi 59 (mX11_append b0 x0 x1 (nI 0) h12) zyX11_append rfl w_1436 (ci := 11) rfl (Nat.le_of_ble_eq_true rfl) (fun _ e9 => kX11_append e9) wm_yX11_append ws_yX11_append (Nat.le_of_ble_eq_true rfl) rfl (Nat.le_of_ble_eq_true rfl) dX11_union_56 rfl (fun q13 => ?_)
          refine z_istore (lv2 := [(4, .int q13.1), (0, .ref (b0 + x0)), (1, .int x1), (2, .int x2), (3, .int x3)]) 61 dX11_union_59 rfl (Nat.le_of_ble_eq_true rfl) rfl ?_
          refine z_iload 63 0 dX11_union_61 rfl rfl ?_
          refine z_aload_n 64 1 dX11_union_63 rfl rfl ?_
          refine z_iload_n 65 3 dX11_union_64 rfl rfl ?_
          refine z_iload 67 0 dX11_union_65 rfl rfl ?_
          refine z_callVi 70 (mX11_append b0 x0 x2 q13.1 q13.2) zyX11_append rfl w_1436 (ci := 11) rfl (Nat.le_of_ble_eq_true rfl) (fun _ e9 => kX11_append e9) wm_yX11_append ws_yX11_append (Nat.le_of_ble_eq_true rfl) rfl (Nat.le_of_ble_eq_true rfl) dX11_union_67 rfl (fun q14 => ?_)
          refine z_iadd 71 dX11_union_70 rfl ?_
          refine z_letI (fun v15 _ => ?_)
          refine z_istore (lv2 := [(4, .int v15), (0, .ref (b0 + x0)), (1, .int x1), (2, .int x2), (3, .int x3)]) 73 dX11_union_71 rfl (Nat.le_of_ble_eq_true rfl) rfl ?_
          refine z_aload_n 74 1 dX11_union_73 rfl rfl ?_
          refine z_iload_n 75 4 dX11_union_74 rfl rfl ?_
          refine z_callVv 78 (mX11_replace b0 x0 x3 q14.2) zyX11_replace rfl w_1170 (ci := 11) rfl (Nat.le_of_ble_eq_true rfl) (fun _ e9 => kX11_replace e9) wm_yX11_replace ws_yX11_replace (Nat.le_of_ble_eq_true rfl) rfl (Nat.le_of_ble_eq_true rfl) dX11_union_75 rfl (fun h16 => ?_)
          refine z_iload 80 0 dX11_union_78 rfl rfl ?_
          exact z_ireturn dX11_union_80 rfl
        · refine z_bipush (-3 : Int32) 48 zkb_m3 dX11_union_46 rfl ?_
          exact z_ireturn dX11_union_48 rfl
      · exact z_sub [] rfl (BX11_union_21 b0 q5.2 )
-- X11_clearWide
def kX11_clearWide_2 (x0 : Nat) (self2 : Int32 × ZH → Option (ZH)) (x1 : Int32) (h : ZH) : Option (ZH) :=
  if (nI 256) ≤ x1 then (some h) else
  ((gR h 11 x0 39).bind fun v2 =>
  (sJ h v2 x1 (lN 0)).bind fun h3 =>
  self2 ((x1 + (nI 1)), h3))
def lX11_clearWide_2 (x0 : Nat) : (Int32 × ZH → Option (ZH)) → Int32 × ZH → Option (ZH) := fun self s => kX11_clearWide_2 x0 self s.1 s.2
theorem KX11_clearWide_2 (b0 : Nat) (x0 : Nat) (self2 : Int32 × ZH → Option (ZH)) (hself2 : ∀ (y1 : Int32) (hh : ZH), Zr zv b0 YX11_clearWide 1 2 [(0, .ref (b0 + x0)), (1, .int y1)] [] hh (self2 (y1, hh))) (x1 : Int32) (h : ZH) : Zr zv b0 YX11_clearWide 1 2 [(0, .ref (b0 + x0)), (1, .int x1)] [] h (kX11_clearWide_2 x0 self2 x1 h) := by
  unfold kX11_clearWide_2
  refine z_iload_n 3 1 dX11_clearWide_2 rfl rfl ?_
  refine z_sipush (nI 256) 6 zks_256 dX11_clearWide_3 rfl ?_
  refine z_icmp_ge 22 9 dX11_clearWide_6 (by decide) rfl (fun c1 => ?_) (fun c1 => ?_)
  · exact z_return dX11_clearWide_22 rfl
  · refine z_aload_n 10 0 dX11_clearWide_9 rfl rfl ?_
    refine z_getR 13 zC11 (Nat.le_of_ble_eq_true rfl) rfl w_1056 dX11_clearWide_10 rfl (fun v2 _ => ?_)
    refine z_iload_n 14 1 dX11_clearWide_13 rfl rfl ?_
    refine z_lconst (lN 0) 15 rfl dX11_clearWide_14 rfl ?_
    refine z_lastore 16 dX11_clearWide_15 rfl (fun h3 _ => ?_)
    refine z_iinc (lv2 := [(1, .int (x1 + (nI 1))), (0, .ref (b0 + x0))]) (nI 1) 19 1 dX11_clearWide_16 rfl rfl zki_1 (Nat.le_of_ble_eq_true rfl) rfl ?_
    refine z_goto 2 dX11_clearWide_19 (by decide) ?_
    exact z_sub [1, 0] rfl (hself2 (x1 + (nI 1)) h3)
theorem BX11_clearWide_2 (b0 : Nat) (x0 : Nat) (n : Nat) (x1 : Int32) (h : ZH) : Zr zv b0 YX11_clearWide 1 2 [(0, .ref (b0 + x0)), (1, .int x1)] [] h (zloop (lX11_clearWide_2 x0) n (x1, h)) :=
  zloop_Zr (fun s => [(0, .ref (b0 + x0)), (1, .int s.1)]) (fun _ => []) (fun s => s.2) (lX11_clearWide_2 x0) (fun self hs s => KX11_clearWide_2 b0 x0 self (fun y1 hh => hs (y1, hh)) s.1 s.2) n (x1, h)
def fX11_clearWide (x0 : Nat) (h : ZH) : Option (ZH) :=
  if x0 < zn h ∧ zK h x0 = 11 then (zloop (lX11_clearWide_2 x0) zfu ((nI 0), h)) else none
theorem kX11_clearWide {x0 : Nat} {h : ZH} {x : ZH} (e : fX11_clearWide x0 h = some x) : x0 < zn h ∧ zK h x0 = 11 := by
  unfold fX11_clearWide at e
  exact zguard e
theorem mX11_clearWide (b0 : Nat) (x0 : Nat) (h : ZH) : ZM zv b0 YX11_clearWide 1 [.ref (b0 + x0)] h (fX11_clearWide x0 h) := by
  unfold fX11_clearWide
  refine ZM.of (by decide) rfl (Nat.le_of_ble_eq_true rfl) (fun _ => trivial) ?_
  refine z_sub (lv2 := [(0, .ref (b0 + x0))]) [0] rfl ?_
  refine z_guard (fun _ => ?_)
  refine z_iconst (nI 0) 1 zki_0 dX11_clearWide_0 rfl ?_
  refine z_istore_n (lv2 := [(1, .int (nI 0)), (0, .ref (b0 + x0))]) 2 dX11_clearWide_1 rfl (Nat.le_of_ble_eq_true rfl) rfl ?_
  exact z_sub [1, 0] rfl (BX11_clearWide_2 b0 x0 zfu (nI 0) h)
-- X11_wideUnion
def fX11_wideUnion (x0 : Nat) (x1 : Int32) (h : ZH) : Option (Int64 × ZH) :=
  if x0 < zn h ∧ zK h x0 = 11 then ((gR h 11 x0 39).bind fun v1 =>
  (lJ h v1 ((nI 4) * x1)).bind fun v2 =>
  (gR h 11 x0 39).bind fun v3 =>
  (lJ h v3 (((nI 4) * x1) + (nI 1))).bind fun v4 =>
  (gR h 11 x0 39).bind fun v5 =>
  (lJ h v5 (((nI 4) * x1) + (nI 2))).bind fun v6 =>
  (gR h 11 x0 39).bind fun v7 =>
  (lJ h v7 (((nI 4) * x1) + (nI 3))).bind fun v8 =>
  some ((((v2 ||| v4) ||| v6) ||| v8), h)) else none
theorem kX11_wideUnion {x0 : Nat} {x1 : Int32} {h : ZH} {x : Int64 × ZH} (e : fX11_wideUnion x0 x1 h = some x) : x0 < zn h ∧ zK h x0 = 11 := by
  unfold fX11_wideUnion at e
  exact zguard e
theorem mX11_wideUnion (b0 : Nat) (x0 : Nat) (x1 : Int32) (h : ZH) : ZM zj b0 YX11_wideUnion 1 [.ref (b0 + x0), .int x1] h (fX11_wideUnion x0 x1 h) := by
  unfold fX11_wideUnion
  refine ZM.of (by decide) rfl (Nat.le_of_ble_eq_true rfl) (fun _ => trivial) ?_
  refine z_sub (lv2 := [(0, .ref (b0 + x0)), (1, .int x1)]) [0, 1] rfl ?_
  refine z_guard (fun _ => ?_)
  refine z_aload_n 1 0 dX11_wideUnion_0 rfl rfl ?_
  refine z_getR 4 zC11 (Nat.le_of_ble_eq_true rfl) rfl w_1056 dX11_wideUnion_1 rfl (fun v1 _ => ?_)
  refine z_iconst (nI 4) 5 zki_4 dX11_wideUnion_4 rfl ?_
  refine z_iload_n 6 1 dX11_wideUnion_5 rfl rfl ?_
  refine z_imul 7 dX11_wideUnion_6 rfl ?_
  refine z_laload 8 dX11_wideUnion_7 rfl (fun v2 _ => ?_)
  refine z_aload_n 9 0 dX11_wideUnion_8 rfl rfl ?_
  refine z_getR 12 zC11 (Nat.le_of_ble_eq_true rfl) rfl w_1056 dX11_wideUnion_9 rfl (fun v3 _ => ?_)
  refine z_iconst (nI 4) 13 zki_4 dX11_wideUnion_12 rfl ?_
  refine z_iload_n 14 1 dX11_wideUnion_13 rfl rfl ?_
  refine z_imul 15 dX11_wideUnion_14 rfl ?_
  refine z_iconst (nI 1) 16 zki_1 dX11_wideUnion_15 rfl ?_
  refine z_iadd 17 dX11_wideUnion_16 rfl ?_
  refine z_laload 18 dX11_wideUnion_17 rfl (fun v4 _ => ?_)
  refine z_lor 19 dX11_wideUnion_18 rfl ?_
  refine z_aload_n 20 0 dX11_wideUnion_19 rfl rfl ?_
  refine z_getR 23 zC11 (Nat.le_of_ble_eq_true rfl) rfl w_1056 dX11_wideUnion_20 rfl (fun v5 _ => ?_)
  refine z_iconst (nI 4) 24 zki_4 dX11_wideUnion_23 rfl ?_
  refine z_iload_n 25 1 dX11_wideUnion_24 rfl rfl ?_
  refine z_imul 26 dX11_wideUnion_25 rfl ?_
  refine z_iconst (nI 2) 27 zki_2 dX11_wideUnion_26 rfl ?_
  refine z_iadd 28 dX11_wideUnion_27 rfl ?_
  refine z_laload 29 dX11_wideUnion_28 rfl (fun v6 _ => ?_)
  refine z_lor 30 dX11_wideUnion_29 rfl ?_
  refine z_aload_n 31 0 dX11_wideUnion_30 rfl rfl ?_
  refine z_getR 34 zC11 (Nat.le_of_ble_eq_true rfl) rfl w_1056 dX11_wideUnion_31 rfl (fun v7 _ => ?_)
  refine z_iconst (nI 4) 35 zki_4 dX11_wideUnion_34 rfl ?_
  refine z_iload_n 36 1 dX11_wideUnion_35 rfl rfl ?_
  refine z_imul 37 dX11_wideUnion_36 rfl ?_
  refine z_iconst (nI 3) 38 zki_3 dX11_wideUnion_37 rfl ?_
  refine z_iadd 39 dX11_wideUnion_38 rfl ?_
  refine z_laload 40 dX11_wideUnion_39 rfl (fun v8 _ => ?_)
  refine z_lor 41 dX11_wideUnion_40 rfl ?_
  exact z_lreturn dX11_wideUnion_41 rfl
-- X11_wideEssential
def bX11_wideEssential_78 (self6 : Int64 × Int64 × ZH → Option (Int64 × ZH)) (self23 : Int64 × Int64 × Int32 × ZH → Option (Int64 × ZH)) (x0 : Nat) (x1 : Int64) (x3 : Int64) (x5 : Int64) (x7 : Int64) (x9 : Int32) (h : ZH) : Option (Int64 × ZH) :=
  self23 (x5, x7, (x9 + (nI 1)), h)
theorem BX11_wideEssential_78 (b0 : Nat) (self6 : Int64 × Int64 × ZH → Option (Int64 × ZH)) (self23 : Int64 × Int64 × Int32 × ZH → Option (Int64 × ZH)) (x0 : Nat) (x1 : Int64) (x3 : Int64) (x5 : Int64) (x7 : Int64) (x9 : Int32) (h : ZH) (hself6 : ∀ (y1 : Int64) (y3 : Int64) (hh : ZH), Zr zj b0 YX11_wideEssential 2 6 [(0, .ref (b0 + x0)), (1, .long y1), (3, .long y3)] [] hh (self6 (y1, y3, hh))) (hself23 : ∀ (y5 : Int64) (y7 : Int64) (y9 : Int32) (hh : ZH), Zr zj b0 YX11_wideEssential 2 23 [(0, .ref (b0 + x0)), (1, .long x1), (3, .long x3), (5, .long y5), (7, .long y7), (9, .int y9)] [] hh (self23 (y5, y7, y9, hh))) : Zr zj b0 YX11_wideEssential 2 78 [(0, .ref (b0 + x0)), (1, .long x1), (3, .long x3), (5, .long x5), (7, .long x7), (9, .int x9)] [] h (bX11_wideEssential_78 self6 self23 x0 x1 x3 x5 x7 x9 h) := by
  unfold bX11_wideEssential_78
  refine z_iinc (lv2 := [(9, .int (x9 + (nI 1))), (0, .ref (b0 + x0)), (1, .long x1), (3, .long x3), (5, .long x5), (7, .long x7)]) (nI 1) 81 5 dX11_wideEssential_78 rfl rfl zki_1 (Nat.le_of_ble_eq_true rfl) rfl ?_
  refine z_goto 23 dX11_wideEssential_81 (by decide) ?_
  exact z_sub [1, 2, 3, 4, 5, 0] rfl (hself23 x5 x7 (x9 + (nI 1)) h)
def bX11_wideEssential_75 (self6 : Int64 × Int64 × ZH → Option (Int64 × ZH)) (self23 : Int64 × Int64 × Int32 × ZH → Option (Int64 × ZH)) (x0 : Nat) (x1 : Int64) (x3 : Int64) (x5 : Int64) (x9 : Int32) (t0 : Int64) (t1 : Int64) (h : ZH) : Option (Int64 × ZH) :=
  zl (t1 ||| t0) fun v1 =>
  bX11_wideEssential_78 self6 self23 x0 x1 x3 x5 v1 x9 h
theorem BX11_wideEssential_75 (b0 : Nat) (self6 : Int64 × Int64 × ZH → Option (Int64 × ZH)) (self23 : Int64 × Int64 × Int32 × ZH → Option (Int64 × ZH)) (x0 : Nat) (x1 : Int64) (x3 : Int64) (x5 : Int64) (x9 : Int32) (t0 : Int64) (t1 : Int64) (h : ZH) (hself6 : ∀ (y1 : Int64) (y3 : Int64) (hh : ZH), Zr zj b0 YX11_wideEssential 2 6 [(0, .ref (b0 + x0)), (1, .long y1), (3, .long y3)] [] hh (self6 (y1, y3, hh))) (hself23 : ∀ (y5 : Int64) (y7 : Int64) (y9 : Int32) (hh : ZH), Zr zj b0 YX11_wideEssential 2 23 [(0, .ref (b0 + x0)), (1, .long x1), (3, .long x3), (5, .long y5), (7, .long y7), (9, .int y9)] [] hh (self23 (y5, y7, y9, hh))) : Zr zj b0 YX11_wideEssential 2 75 [(0, .ref (b0 + x0)), (1, .long x1), (3, .long x3), (5, .long x5), (9, .int x9)] [.long t0, .long t1] h (bX11_wideEssential_75 self6 self23 x0 x1 x3 x5 x9 t0 t1 h) := by
  unfold bX11_wideEssential_75
  refine z_lor 76 dX11_wideEssential_75 rfl ?_
  refine z_letJ (fun v1 _ => ?_)
  refine z_lstore (lv2 := [(7, .long v1), (0, .ref (b0 + x0)), (1, .long x1), (3, .long x3), (5, .long x5), (9, .int x9)]) 78 dX11_wideEssential_76 rfl (Nat.le_of_ble_eq_true rfl) rfl ?_
  exact z_sub [1, 2, 3, 4, 0, 5] rfl (BX11_wideEssential_78 b0 self6 self23 x0 x1 x3 x5 v1 x9 h hself6 hself23)
def kX11_wideEssential_23 (self6 : Int64 × Int64 × ZH → Option (Int64 × ZH)) (x0 : Nat) (x1 : Int64) (x3 : Int64) (self23 : Int64 × Int64 × Int32 × ZH → Option (Int64 × ZH)) (x5 : Int64) (x7 : Int64) (x9 : Int32) (h : ZH) : Option (Int64 × ZH) :=
  if (nI 64) ≤ x9 then (zl (x1 &&& (x5 &&& x7)) fun v2 =>
  self6 (v2, x3, h)) else
  (if (lg_cmp ((jlshr x1 x9) &&& (lN 1)) (lN 1)) = 0 then ((fX11_wideUnion x0 x9 h).bind fun q4 =>
  zl (x5 ||| q4.1) fun v5 =>
  (fX11_wideUnion x0 x9 q4.2).bind fun q6 =>
  if (lg_cmp (q6.1 &&& x1) (lN 0)) = 0 then (bX11_wideEssential_75 self6 self23 x0 x1 x3 v5 x9 (lN 0) x7 q6.2) else
  (bX11_wideEssential_75 self6 self23 x0 x1 x3 v5 x9 (jlshl (lN 1) x9) x7 q6.2)) else
  (bX11_wideEssential_78 self6 self23 x0 x1 x3 x5 x7 x9 h))
def lX11_wideEssential_23 (self6 : Int64 × Int64 × ZH → Option (Int64 × ZH)) (x0 : Nat) (x1 : Int64) (x3 : Int64) : (Int64 × Int64 × Int32 × ZH → Option (Int64 × ZH)) → Int64 × Int64 × Int32 × ZH → Option (Int64 × ZH) := fun self s => kX11_wideEssential_23 self6 x0 x1 x3 self s.1 s.2.1 s.2.2.1 s.2.2.2
theorem KX11_wideEssential_23 (b0 : Nat) (self6 : Int64 × Int64 × ZH → Option (Int64 × ZH)) (x0 : Nat) (x1 : Int64) (x3 : Int64) (hself6 : ∀ (y1 : Int64) (y3 : Int64) (hh : ZH), Zr zj b0 YX11_wideEssential 2 6 [(0, .ref (b0 + x0)), (1, .long y1), (3, .long y3)] [] hh (self6 (y1, y3, hh))) (self23 : Int64 × Int64 × Int32 × ZH → Option (Int64 × ZH)) (hself23 : ∀ (y5 : Int64) (y7 : Int64) (y9 : Int32) (hh : ZH), Zr zj b0 YX11_wideEssential 2 23 [(0, .ref (b0 + x0)), (1, .long x1), (3, .long x3), (5, .long y5), (7, .long y7), (9, .int y9)] [] hh (self23 (y5, y7, y9, hh))) (x5 : Int64) (x7 : Int64) (x9 : Int32) (h : ZH) : Zr zj b0 YX11_wideEssential 2 23 [(0, .ref (b0 + x0)), (1, .long x1), (3, .long x3), (5, .long x5), (7, .long x7), (9, .int x9)] [] h (kX11_wideEssential_23 self6 x0 x1 x3 self23 x5 x7 x9 h) := by
  unfold kX11_wideEssential_23
  refine z_iload 25 5 dX11_wideEssential_23 rfl rfl ?_
  refine z_bipush (nI 64) 27 zkb_64 dX11_wideEssential_25 rfl ?_
  refine z_icmp_ge 84 30 dX11_wideEssential_27 (by decide) rfl (fun c1 => ?_) (fun c1 => ?_)
  · refine z_lload_n 85 1 dX11_wideEssential_84 rfl rfl ?_
    refine z_lload 87 3 dX11_wideEssential_85 rfl rfl ?_
    refine z_lload 89 4 dX11_wideEssential_87 rfl rfl ?_
    refine z_land 90 dX11_wideEssential_89 rfl ?_
    refine z_land 91 dX11_wideEssential_90 rfl ?_
    refine z_letJ (fun v2 _ => ?_)
    refine z_lstore_n (lv2 := [(1, .long v2), (0, .ref (b0 + x0)), (3, .long x3), (5, .long x5), (7, .long x7), (9, .int x9)]) 92 dX11_wideEssential_91 rfl (Nat.le_of_ble_eq_true rfl) rfl ?_
    refine z_goto 6 dX11_wideEssential_92 (by decide) ?_
    exact z_sub [1, 0, 2] rfl (hself6 v2 x3 h)
  · refine z_lload_n 31 1 dX11_wideEssential_30 rfl rfl ?_
    refine z_iload 33 5 dX11_wideEssential_31 rfl rfl ?_
    refine z_lshr 34 dX11_wideEssential_33 rfl ?_
    refine z_lconst (lN 1) 35 rfl dX11_wideEssential_34 rfl ?_
    refine z_land 36 dX11_wideEssential_35 rfl ?_
    refine z_lconst (lN 1) 37 rfl dX11_wideEssential_36 rfl ?_
    refine z_lcmp 38 dX11_wideEssential_37 rfl ?_
    refine z_if_ne 78 41 dX11_wideEssential_38 (by decide) rfl (fun c3 => ?_) (fun c3 => ?_)
    · exact z_sub [0, 1, 2, 3, 4, 5] rfl (BX11_wideEssential_78 b0 self6 self23 x0 x1 x3 x5 x7 x9 h hself6 hself23)
    · refine z_lload 43 3 dX11_wideEssential_41 rfl rfl ?_
      refine z_aload_n 44 0 dX11_wideEssential_43 rfl rfl ?_
      refine z_iload 46 5 dX11_wideEssential_44 rfl rfl ?_
      refine z_callVj 49 (mX11_wideUnion b0 x0 x9 h) zyX11_wideUnion rfl w_1457 (ci := 11) rfl (Nat.le_of_ble_eq_true rfl) (fun _ e9 => kX11_wideUnion e9) wm_yX11_wideUnion ws_yX11_wideUnion (Nat.le_of_ble_eq_true rfl) rfl (Nat.le_of_ble_eq_true rfl) dX11_wideEssential_46 rfl (fun q4 => ?_)
      refine z_lor 50 dX11_wideEssential_49 rfl ?_
      refine z_letJ (fun v5 _ => ?_)
      refine z_lstore (lv2 := [(5, .long v5), (0, .ref (b0 + x0)), (1, .long x1), (3, .long x3), (7, .long x7), (9, .int x9)]) 52 dX11_wideEssential_50 rfl (Nat.le_of_ble_eq_true rfl) rfl ?_
      refine z_lload 54 4 dX11_wideEssential_52 rfl rfl ?_
      refine z_aload_n 55 1 dX11_wideEssential_54 rfl rfl ?_
      refine z_iload 57 5 dX11_wideEssential_55 rfl rfl ?_
      refine z_callVj 60 (mX11_wideUnion b0 x0 x9 q4.2) zyX11_wideUnion rfl w_1457 (ci := 11) rfl (Nat.le_of_ble_eq_true rfl) (fun _ e9 => kX11_wideUnion e9) wm_yX11_wideUnion ws_yX11_wideUnion (Nat.le_of_ble_eq_true rfl) rfl (Nat.le_of_ble_eq_true rfl) dX11_wideEssential_57 rfl (fun q6 => ?_)
      refine z_lload_n 61 2 dX11_wideEssential_60 rfl rfl ?_
      refine z_land 62 dX11_wideEssential_61 rfl ?_
      refine z_lconst (lN 0) 63 rfl dX11_wideEssential_62 rfl ?_
      refine z_lcmp 64 dX11_wideEssential_63 rfl ?_
      refine z_if_eq 74 67 dX11_wideEssential_64 (by decide) rfl (fun c7 => ?_) (fun c7 => ?_)
      · refine z_lconst (lN 0) 75 rfl dX11_wideEssential_74 rfl ?_
        exact z_sub [1, 2, 3, 0, 5] rfl (BX11_wideEssential_75 b0 self6 self23 x0 x1 x3 v5 x9 (lN 0) x7 q6.2 hself6 hself23)
      · refine z_lconst (lN 1) 68 rfl dX11_wideEssential_67 rfl ?_
        refine z_iload 70 5 dX11_wideEssential_68 rfl rfl ?_
        refine z_lshl 71 dX11_wideEssential_70 rfl ?_
        refine z_goto 75 dX11_wideEssential_71 (by decide) ?_
        exact z_sub [1, 2, 3, 0, 5] rfl (BX11_wideEssential_75 b0 self6 self23 x0 x1 x3 v5 x9 (jlshl (lN 1) x9) x7 q6.2 hself6 hself23)
theorem BX11_wideEssential_23 (b0 : Nat) (self6 : Int64 × Int64 × ZH → Option (Int64 × ZH)) (x0 : Nat) (x1 : Int64) (x3 : Int64) (hself6 : ∀ (y1 : Int64) (y3 : Int64) (hh : ZH), Zr zj b0 YX11_wideEssential 2 6 [(0, .ref (b0 + x0)), (1, .long y1), (3, .long y3)] [] hh (self6 (y1, y3, hh))) (n : Nat) (x5 : Int64) (x7 : Int64) (x9 : Int32) (h : ZH) : Zr zj b0 YX11_wideEssential 2 23 [(0, .ref (b0 + x0)), (1, .long x1), (3, .long x3), (5, .long x5), (7, .long x7), (9, .int x9)] [] h (zloop (lX11_wideEssential_23 self6 x0 x1 x3) n (x5, x7, x9, h)) :=
  zloop_Zr (fun s => [(0, .ref (b0 + x0)), (1, .long x1), (3, .long x3), (5, .long s.1), (7, .long s.2.1), (9, .int s.2.2.1)]) (fun _ => []) (fun s => s.2.2.2) (lX11_wideEssential_23 self6 x0 x1 x3) (fun self hs s => KX11_wideEssential_23 b0 self6 x0 x1 x3 hself6 self (fun y5 y7 y9 hh => hs (y5, y7, y9, hh)) s.1 s.2.1 s.2.2.1 s.2.2.2) n (x5, x7, x9, h)
def kX11_wideEssential_6 (x0 : Nat) (self6 : Int64 × Int64 × ZH → Option (Int64 × ZH)) (x1 : Int64) (x3 : Int64) (h : ZH) : Option (Int64 × ZH) :=
  if (lg_cmp x1 x3) = 0 then (some (x1, h)) else
  (zloop (lX11_wideEssential_23 self6 x0 x1 x1) zfu ((lN 0), (lN 0), (nI 0), h))
def lX11_wideEssential_6 (x0 : Nat) : (Int64 × Int64 × ZH → Option (Int64 × ZH)) → Int64 × Int64 × ZH → Option (Int64 × ZH) := fun self s => kX11_wideEssential_6 x0 self s.1 s.2.1 s.2.2
theorem KX11_wideEssential_6 (b0 : Nat) (x0 : Nat) (self6 : Int64 × Int64 × ZH → Option (Int64 × ZH)) (hself6 : ∀ (y1 : Int64) (y3 : Int64) (hh : ZH), Zr zj b0 YX11_wideEssential 2 6 [(0, .ref (b0 + x0)), (1, .long y1), (3, .long y3)] [] hh (self6 (y1, y3, hh))) (x1 : Int64) (x3 : Int64) (h : ZH) : Zr zj b0 YX11_wideEssential 2 6 [(0, .ref (b0 + x0)), (1, .long x1), (3, .long x3)] [] h (kX11_wideEssential_6 x0 self6 x1 x3 h) := by
  unfold kX11_wideEssential_6
  refine z_lload_n 7 1 dX11_wideEssential_6 rfl rfl ?_
  refine z_lload_n 8 2 dX11_wideEssential_7 rfl rfl ?_
  refine z_lcmp 9 dX11_wideEssential_8 rfl ?_
  refine z_if_eq 95 12 dX11_wideEssential_9 (by decide) rfl (fun c1 => ?_) (fun c1 => ?_)
  · refine z_lload_n 96 1 dX11_wideEssential_95 rfl rfl ?_
    exact z_lreturn dX11_wideEssential_96 rfl
  · refine z_lload_n 13 1 dX11_wideEssential_12 rfl rfl ?_
    refine z_lstore_n (lv2 := [(3, .long x1), (0, .ref (b0 + x0)), (1, .long x1)]) 14 dX11_wideEssential_13 rfl (Nat.le_of_ble_eq_true rfl) rfl ?_
    refine z_lconst (lN 0) 15 rfl dX11_wideEssential_14 rfl ?_
    refine z_lstore (lv2 := [(5, .long (lN 0)), (3, .long x1), (0, .ref (b0 + x0)), (1, .long x1)]) 17 dX11_wideEssential_15 rfl (Nat.le_of_ble_eq_true rfl) rfl ?_
    refine z_lconst (lN 0) 18 rfl dX11_wideEssential_17 rfl ?_
    refine z_lstore (lv2 := [(7, .long (lN 0)), (5, .long (lN 0)), (3, .long x1), (0, .ref (b0 + x0)), (1, .long x1)]) 20 dX11_wideEssential_18 rfl (Nat.le_of_ble_eq_true rfl) rfl ?_
    refine z_iconst (nI 0) 21 zki_0 dX11_wideEssential_20 rfl ?_
    refine z_istore (lv2 := [(9, .int (nI 0)), (7, .long (lN 0)), (5, .long (lN 0)), (3, .long x1), (0, .ref (b0 + x0)), (1, .long x1)]) 23 dX11_wideEssential_21 rfl (Nat.le_of_ble_eq_true rfl) rfl ?_
    exact z_sub [4, 5, 3, 2, 1, 0] rfl (BX11_wideEssential_23 b0 self6 x0 x1 x1 hself6 zfu (lN 0) (lN 0) (nI 0) h)
theorem BX11_wideEssential_6 (b0 : Nat) (x0 : Nat) (n : Nat) (x1 : Int64) (x3 : Int64) (h : ZH) : Zr zj b0 YX11_wideEssential 2 6 [(0, .ref (b0 + x0)), (1, .long x1), (3, .long x3)] [] h (zloop (lX11_wideEssential_6 x0) n (x1, x3, h)) :=
  zloop_Zr (fun s => [(0, .ref (b0 + x0)), (1, .long s.1), (3, .long s.2.1)]) (fun _ => []) (fun s => s.2.2) (lX11_wideEssential_6 x0) (fun self hs s => KX11_wideEssential_6 b0 x0 self (fun y1 y3 hh => hs (y1, y3, hh)) s.1 s.2.1 s.2.2) n (x1, x3, h)
def fX11_wideEssential (x0 : Nat) (h : ZH) : Option (Int64 × ZH) :=
  if x0 < zn h ∧ zK h x0 = 11 then (zloop (lX11_wideEssential_6 x0) zfu ((-1 : Int64), (lN 0), h)) else none
theorem kX11_wideEssential {x0 : Nat} {h : ZH} {x : Int64 × ZH} (e : fX11_wideEssential x0 h = some x) : x0 < zn h ∧ zK h x0 = 11 := by
  unfold fX11_wideEssential at e
  exact zguard e
theorem mX11_wideEssential (b0 : Nat) (x0 : Nat) (h : ZH) : ZM zj b0 YX11_wideEssential 2 [.ref (b0 + x0)] h (fX11_wideEssential x0 h) := by
  unfold fX11_wideEssential
  refine ZM.of (by decide) rfl (Nat.le_of_ble_eq_true rfl) (fun _ => trivial) ?_
  refine z_sub (lv2 := [(0, .ref (b0 + x0))]) [0] rfl ?_
  refine z_guard (fun _ => ?_)
  refine z_ldc2 3 w_1456 dX11_wideEssential_0 rfl ?_
  refine z_lstore_n (lv2 := [(1, .long (-1 : Int64)), (0, .ref (b0 + x0))]) 4 dX11_wideEssential_3 rfl (Nat.le_of_ble_eq_true rfl) rfl ?_
  refine z_lconst (lN 0) 5 rfl dX11_wideEssential_4 rfl ?_
  refine z_lstore_n (lv2 := [(3, .long (lN 0)), (1, .long (-1 : Int64)), (0, .ref (b0 + x0))]) 6 dX11_wideEssential_5 rfl (Nat.le_of_ble_eq_true rfl) rfl ?_
  exact z_sub [2, 1, 0] rfl (BX11_wideEssential_6 b0 x0 zfu (-1 : Int64) (lN 0) h)
-- X11_storeWide
def kX11_storeWide_44 (self26 : Int32 × ZH → Option (Int32 × ZH)) (self36 : Int32 × ZH → Option (Int32 × ZH)) (x0 : Nat) (x1 : Int32) (x2 : Int32) (x3 : Int32) (self44 : Int32 × ZH → Option (Int32 × ZH)) (x4 : Int32) (h : ZH) : Option (Int32 × ZH) :=
  (gI h 11 x0 17).bind fun v1 =>
  if v1 ≤ x4 then (self36 ((x3 + (nI 1)), h)) else
  ((gR h 11 x0 1).bind fun v3 =>
  zl (((nI 4) * x2) + x3) fun v4 =>
  (lI h 14 v3 v4).bind fun v5 =>
  (gR h 11 x0 39).bind fun v6 =>
  (gR h 11 x0 16).bind fun v7 =>
  (lI h 14 v7 x2).bind fun v8 =>
  (lJ h v6 (((nI 4) * v8) + x3)).bind fun v9 =>
  (gR h 11 x0 16).bind fun v10 =>
  (lI h 14 v10 x4).bind fun v11 =>
  (sI h 14 v3 v4 (v5 ||| (jshl (((jlshr v9 v11) &&& (lN 1)).toInt32) x4))).bind fun h12 =>
  self44 ((x4 + (nI 1)), h12))
def lX11_storeWide_44 (self26 : Int32 × ZH → Option (Int32 × ZH)) (self36 : Int32 × ZH → Option (Int32 × ZH)) (x0 : Nat) (x1 : Int32) (x2 : Int32) (x3 : Int32) : (Int32 × ZH → Option (Int32 × ZH)) → Int32 × ZH → Option (Int32 × ZH) := fun self s => kX11_storeWide_44 self26 self36 x0 x1 x2 x3 self s.1 s.2
theorem KX11_storeWide_44 (b0 : Nat) (self26 : Int32 × ZH → Option (Int32 × ZH)) (self36 : Int32 × ZH → Option (Int32 × ZH)) (x0 : Nat) (x1 : Int32) (x2 : Int32) (x3 : Int32) (hself26 : ∀ (y2 : Int32) (hh : ZH), Zr zi b0 YX11_storeWide 3 26 [(0, .ref (b0 + x0)), (1, .int x1), (2, .int y2)] [] hh (self26 (y2, hh))) (hself36 : ∀ (y3 : Int32) (hh : ZH), Zr zi b0 YX11_storeWide 3 36 [(0, .ref (b0 + x0)), (1, .int x1), (2, .int x2), (3, .int y3)] [] hh (self36 (y3, hh))) (self44 : Int32 × ZH → Option (Int32 × ZH)) (hself44 : ∀ (y4 : Int32) (hh : ZH), Zr zi b0 YX11_storeWide 3 44 [(0, .ref (b0 + x0)), (1, .int x1), (2, .int x2), (3, .int x3), (4, .int y4)] [] hh (self44 (y4, hh))) (x4 : Int32) (h : ZH) : Zr zi b0 YX11_storeWide 3 44 [(0, .ref (b0 + x0)), (1, .int x1), (2, .int x2), (3, .int x3), (4, .int x4)] [] h (kX11_storeWide_44 self26 self36 x0 x1 x2 x3 self44 x4 h) := by
  unfold kX11_storeWide_44
  refine z_iload 46 4 dX11_storeWide_44 rfl rfl ?_
  refine z_aload_n 47 0 dX11_storeWide_46 rfl rfl ?_
  refine z_getI 50 zC11 (Nat.le_of_ble_eq_true rfl) rfl w_1034 dX11_storeWide_47 rfl (fun v1 _ => ?_)
  refine z_icmp_ge 101 53 dX11_storeWide_50 (by decide) rfl (fun c2 => ?_) (fun c2 => ?_)
  · refine z_iinc (lv2 := [(3, .int (x3 + (nI 1))), (0, .ref (b0 + x0)), (1, .int x1), (2, .int x2), (4, .int x4)]) (nI 1) 104 3 dX11_storeWide_101 rfl rfl zki_1 (Nat.le_of_ble_eq_true rfl) rfl ?_
    refine z_goto 36 dX11_storeWide_104 (by decide) ?_
    exact z_sub [1, 2, 3, 0] rfl (hself36 (x3 + (nI 1)) h)
  · refine z_aload_n 54 0 dX11_storeWide_53 rfl rfl ?_
    refine z_getR 57 zC11 (Nat.le_of_ble_eq_true rfl) rfl w_1018 dX11_storeWide_54 rfl (fun v3 _ => ?_)
    refine z_iconst (nI 4) 58 zki_4 dX11_storeWide_57 rfl ?_
    refine z_iload_n 59 2 dX11_storeWide_58 rfl rfl ?_
    refine z_imul 60 dX11_storeWide_59 rfl ?_
    refine z_iload_n 61 3 dX11_storeWide_60 rfl rfl ?_
    refine z_iadd 62 dX11_storeWide_61 rfl ?_
    refine z_letI (fun v4 _ => ?_)
    refine z_dup2 63 rfl rfl dX11_storeWide_62 rfl ?_
    refine z_iaload 64 dX11_storeWide_63 rfl (fun v5 _ => ?_)
    refine z_aload_n 65 0 dX11_storeWide_64 rfl rfl ?_
    refine z_getR 68 zC11 (Nat.le_of_ble_eq_true rfl) rfl w_1056 dX11_storeWide_65 rfl (fun v6 _ => ?_)
    refine z_iconst (nI 4) 69 zki_4 dX11_storeWide_68 rfl ?_
    refine z_aload_n 70 0 dX11_storeWide_69 rfl rfl ?_
    refine z_getR 73 zC11 (Nat.le_of_ble_eq_true rfl) rfl w_1033 dX11_storeWide_70 rfl (fun v7 _ => ?_)
    refine z_iload_n 74 2 dX11_storeWide_73 rfl rfl ?_
    refine z_iaload 75 dX11_storeWide_74 rfl (fun v8 _ => ?_)
    refine z_imul 76 dX11_storeWide_75 rfl ?_
    refine z_iload_n 77 3 dX11_storeWide_76 rfl rfl ?_
    refine z_iadd 78 dX11_storeWide_77 rfl ?_
    refine z_laload 79 dX11_storeWide_78 rfl (fun v9 _ => ?_)
    refine z_aload_n 80 0 dX11_storeWide_79 rfl rfl ?_
    refine z_getR 83 zC11 (Nat.le_of_ble_eq_true rfl) rfl w_1033 dX11_storeWide_80 rfl (fun v10 _ => ?_)
    refine z_iload 85 4 dX11_storeWide_83 rfl rfl ?_
    refine z_iaload 86 dX11_storeWide_85 rfl (fun v11 _ => ?_)
    refine z_lshr 87 dX11_storeWide_86 rfl ?_
    refine z_lconst (lN 1) 88 rfl dX11_storeWide_87 rfl ?_
    refine z_land 89 dX11_storeWide_88 rfl ?_
    refine z_l2i 90 dX11_storeWide_89 rfl ?_
    refine z_iload 92 4 dX11_storeWide_90 rfl rfl ?_
    refine z_ishl 93 dX11_storeWide_92 rfl ?_
    refine z_ior 94 dX11_storeWide_93 rfl ?_
    refine z_iastore 95 dX11_storeWide_94 rfl (fun h12 _ => ?_)
    refine z_iinc (lv2 := [(4, .int (x4 + (nI 1))), (0, .ref (b0 + x0)), (1, .int x1), (2, .int x2), (3, .int x3)]) (nI 1) 98 4 dX11_storeWide_95 rfl rfl zki_1 (Nat.le_of_ble_eq_true rfl) rfl ?_
    refine z_goto 44 dX11_storeWide_98 (by decide) ?_
    exact z_sub [1, 2, 3, 4, 0] rfl (hself44 (x4 + (nI 1)) h12)
theorem BX11_storeWide_44 (b0 : Nat) (self26 : Int32 × ZH → Option (Int32 × ZH)) (self36 : Int32 × ZH → Option (Int32 × ZH)) (x0 : Nat) (x1 : Int32) (x2 : Int32) (x3 : Int32) (hself26 : ∀ (y2 : Int32) (hh : ZH), Zr zi b0 YX11_storeWide 3 26 [(0, .ref (b0 + x0)), (1, .int x1), (2, .int y2)] [] hh (self26 (y2, hh))) (hself36 : ∀ (y3 : Int32) (hh : ZH), Zr zi b0 YX11_storeWide 3 36 [(0, .ref (b0 + x0)), (1, .int x1), (2, .int x2), (3, .int y3)] [] hh (self36 (y3, hh))) (n : Nat) (x4 : Int32) (h : ZH) : Zr zi b0 YX11_storeWide 3 44 [(0, .ref (b0 + x0)), (1, .int x1), (2, .int x2), (3, .int x3), (4, .int x4)] [] h (zloop (lX11_storeWide_44 self26 self36 x0 x1 x2 x3) n (x4, h)) :=
  zloop_Zr (fun s => [(0, .ref (b0 + x0)), (1, .int x1), (2, .int x2), (3, .int x3), (4, .int s.1)]) (fun _ => []) (fun s => s.2) (lX11_storeWide_44 self26 self36 x0 x1 x2 x3) (fun self hs s => KX11_storeWide_44 b0 self26 self36 x0 x1 x2 x3 hself26 hself36 self (fun y4 hh => hs (y4, hh)) s.1 s.2) n (x4, h)
def kX11_storeWide_36 (self26 : Int32 × ZH → Option (Int32 × ZH)) (x0 : Nat) (x1 : Int32) (x2 : Int32) (self36 : Int32 × ZH → Option (Int32 × ZH)) (x3 : Int32) (h : ZH) : Option (Int32 × ZH) :=
  if (nI 4) ≤ x3 then (self26 ((x2 + (nI 1)), h)) else
  (zloop (lX11_storeWide_44 self26 self36 x0 x1 x2 x3) zfu ((nI 0), h))
def lX11_storeWide_36 (self26 : Int32 × ZH → Option (Int32 × ZH)) (x0 : Nat) (x1 : Int32) (x2 : Int32) : (Int32 × ZH → Option (Int32 × ZH)) → Int32 × ZH → Option (Int32 × ZH) := fun self s => kX11_storeWide_36 self26 x0 x1 x2 self s.1 s.2
theorem KX11_storeWide_36 (b0 : Nat) (self26 : Int32 × ZH → Option (Int32 × ZH)) (x0 : Nat) (x1 : Int32) (x2 : Int32) (hself26 : ∀ (y2 : Int32) (hh : ZH), Zr zi b0 YX11_storeWide 3 26 [(0, .ref (b0 + x0)), (1, .int x1), (2, .int y2)] [] hh (self26 (y2, hh))) (self36 : Int32 × ZH → Option (Int32 × ZH)) (hself36 : ∀ (y3 : Int32) (hh : ZH), Zr zi b0 YX11_storeWide 3 36 [(0, .ref (b0 + x0)), (1, .int x1), (2, .int x2), (3, .int y3)] [] hh (self36 (y3, hh))) (x3 : Int32) (h : ZH) : Zr zi b0 YX11_storeWide 3 36 [(0, .ref (b0 + x0)), (1, .int x1), (2, .int x2), (3, .int x3)] [] h (kX11_storeWide_36 self26 x0 x1 x2 self36 x3 h) := by
  unfold kX11_storeWide_36
  refine z_iload_n 37 3 dX11_storeWide_36 rfl rfl ?_
  refine z_iconst (nI 4) 38 zki_4 dX11_storeWide_37 rfl ?_
  refine z_icmp_ge 107 41 dX11_storeWide_38 (by decide) rfl (fun c1 => ?_) (fun c1 => ?_)
  · refine z_iinc (lv2 := [(2, .int (x2 + (nI 1))), (0, .ref (b0 + x0)), (1, .int x1), (3, .int x3)]) (nI 1) 110 2 dX11_storeWide_107 rfl rfl zki_1 (Nat.le_of_ble_eq_true rfl) rfl ?_
    refine z_goto 26 dX11_storeWide_110 (by decide) ?_
    exact z_sub [1, 2, 0] rfl (hself26 (x2 + (nI 1)) h)
  · refine z_iconst (nI 0) 42 zki_0 dX11_storeWide_41 rfl ?_
    refine z_istore (lv2 := [(4, .int (nI 0)), (0, .ref (b0 + x0)), (1, .int x1), (2, .int x2), (3, .int x3)]) 44 dX11_storeWide_42 rfl (Nat.le_of_ble_eq_true rfl) rfl ?_
    exact z_sub [1, 2, 3, 4, 0] rfl (BX11_storeWide_44 b0 self26 self36 x0 x1 x2 x3 hself26 hself36 zfu (nI 0) h)
theorem BX11_storeWide_36 (b0 : Nat) (self26 : Int32 × ZH → Option (Int32 × ZH)) (x0 : Nat) (x1 : Int32) (x2 : Int32) (hself26 : ∀ (y2 : Int32) (hh : ZH), Zr zi b0 YX11_storeWide 3 26 [(0, .ref (b0 + x0)), (1, .int x1), (2, .int y2)] [] hh (self26 (y2, hh))) (n : Nat) (x3 : Int32) (h : ZH) : Zr zi b0 YX11_storeWide 3 36 [(0, .ref (b0 + x0)), (1, .int x1), (2, .int x2), (3, .int x3)] [] h (zloop (lX11_storeWide_36 self26 x0 x1 x2) n (x3, h)) :=
  zloop_Zr (fun s => [(0, .ref (b0 + x0)), (1, .int x1), (2, .int x2), (3, .int s.1)]) (fun _ => []) (fun s => s.2) (lX11_storeWide_36 self26 x0 x1 x2) (fun self hs s => KX11_storeWide_36 b0 self26 x0 x1 x2 hself26 self (fun y3 hh => hs (y3, hh)) s.1 s.2) n (x3, h)
def kX11_storeWide_26 (x0 : Nat) (x1 : Int32) (self26 : Int32 × ZH → Option (Int32 × ZH)) (x2 : Int32) (h : ZH) : Option (Int32 × ZH) :=
  (gI h 11 x0 17).bind fun v1 =>
  if v1 ≤ x2 then ((fX11_replace x0 x1 h).bind fun h3 =>
  (gI h3 11 x0 17).bind fun v4 =>
  some (v4, h3)) else
  (zloop (lX11_storeWide_36 self26 x0 x1 x2) zfu ((nI 0), h))
def lX11_storeWide_26 (x0 : Nat) (x1 : Int32) : (Int32 × ZH → Option (Int32 × ZH)) → Int32 × ZH → Option (Int32 × ZH) := fun self s => kX11_storeWide_26 x0 x1 self s.1 s.2
theorem KX11_storeWide_26 (b0 : Nat) (x0 : Nat) (x1 : Int32) (self26 : Int32 × ZH → Option (Int32 × ZH)) (hself26 : ∀ (y2 : Int32) (hh : ZH), Zr zi b0 YX11_storeWide 3 26 [(0, .ref (b0 + x0)), (1, .int x1), (2, .int y2)] [] hh (self26 (y2, hh))) (x2 : Int32) (h : ZH) : Zr zi b0 YX11_storeWide 3 26 [(0, .ref (b0 + x0)), (1, .int x1), (2, .int x2)] [] h (kX11_storeWide_26 x0 x1 self26 x2 h) := by
  unfold kX11_storeWide_26
  refine z_iload_n 27 2 dX11_storeWide_26 rfl rfl ?_
  refine z_aload_n 28 0 dX11_storeWide_27 rfl rfl ?_
  refine z_getI 31 zC11 (Nat.le_of_ble_eq_true rfl) rfl w_1034 dX11_storeWide_28 rfl (fun v1 _ => ?_)
  refine z_icmp_ge 113 34 dX11_storeWide_31 (by decide) rfl (fun c2 => ?_) (fun c2 => ?_)
  · refine z_aload_n 114 0 dX11_storeWide_113 rfl rfl ?_
    refine z_iload_n 115 1 dX11_storeWide_114 rfl rfl ?_
    refine z_callVv 118 (mX11_replace b0 x0 x1 h) zyX11_replace rfl w_1170 (ci := 11) rfl (Nat.le_of_ble_eq_true rfl) (fun _ e9 => kX11_replace e9) wm_yX11_replace ws_yX11_replace (Nat.le_of_ble_eq_true rfl) rfl (Nat.le_of_ble_eq_true rfl) dX11_storeWide_115 rfl (fun h3 => ?_)
    refine z_aload_n 119 0 dX11_storeWide_118 rfl rfl ?_
    refine z_getI 122 zC11 (Nat.le_of_ble_eq_true rfl) rfl w_1034 dX11_storeWide_119 rfl (fun v4 _ => ?_)
    exact z_ireturn dX11_storeWide_122 rfl
  · refine z_iconst (nI 0) 35 zki_0 dX11_storeWide_34 rfl ?_
    refine z_istore_n (lv2 := [(3, .int (nI 0)), (0, .ref (b0 + x0)), (1, .int x1), (2, .int x2)]) 36 dX11_storeWide_35 rfl (Nat.le_of_ble_eq_true rfl) rfl ?_
    exact z_sub [1, 2, 3, 0] rfl (BX11_storeWide_36 b0 self26 x0 x1 x2 hself26 zfu (nI 0) h)
theorem BX11_storeWide_26 (b0 : Nat) (x0 : Nat) (x1 : Int32) (n : Nat) (x2 : Int32) (h : ZH) : Zr zi b0 YX11_storeWide 3 26 [(0, .ref (b0 + x0)), (1, .int x1), (2, .int x2)] [] h (zloop (lX11_storeWide_26 x0 x1) n (x2, h)) :=
  zloop_Zr (fun s => [(0, .ref (b0 + x0)), (1, .int x1), (2, .int s.1)]) (fun _ => []) (fun s => s.2) (lX11_storeWide_26 x0 x1) (fun self hs s => KX11_storeWide_26 b0 x0 x1 self (fun y2 hh => hs (y2, hh)) s.1 s.2) n (x2, h)
def fX11_storeWide (x0 : Nat) (x1 : Int32) (h : ZH) : Option (Int32 × ZH) :=
  if x0 < zn h ∧ zK h x0 = 11 then ((fX11_wideEssential x0 h).bind fun q1 =>
  (fX11_place x0 q1.1 q1.2).bind fun h2 =>
  (gI h2 11 x0 17).bind fun v3 =>
  if v3 ≤ (nI 8) then ((fX11_clearMade x0 h2).bind fun h5 =>
  zloop (lX11_storeWide_26 x0 x1) zfu ((nI 0), h5)) else
  (some ((-3 : Int32), h2))) else none
theorem kX11_storeWide {x0 : Nat} {x1 : Int32} {h : ZH} {x : Int32 × ZH} (e : fX11_storeWide x0 x1 h = some x) : x0 < zn h ∧ zK h x0 = 11 := by
  unfold fX11_storeWide at e
  exact zguard e
theorem mX11_storeWide (b0 : Nat) (x0 : Nat) (x1 : Int32) (h : ZH) : ZM zi b0 YX11_storeWide 3 [.ref (b0 + x0), .int x1] h (fX11_storeWide x0 x1 h) := by
  unfold fX11_storeWide
  refine ZM.of (by decide) rfl (Nat.le_of_ble_eq_true rfl) (fun _ => trivial) ?_
  refine z_sub (lv2 := [(0, .ref (b0 + x0)), (1, .int x1)]) [0, 1] rfl ?_
  refine z_guard (fun _ => ?_)
  refine z_aload_n 1 0 dX11_storeWide_0 rfl rfl ?_
  refine z_aload_n 2 0 dX11_storeWide_1 rfl rfl ?_
  refine z_callVj 5 (mX11_wideEssential b0 x0 h) zyX11_wideEssential rfl w_1452 (ci := 11) rfl (Nat.le_of_ble_eq_true rfl) (fun _ e9 => kX11_wideEssential e9) wm_yX11_wideEssential ws_yX11_wideEssential (Nat.le_of_ble_eq_true rfl) rfl (Nat.le_of_ble_eq_true rfl) dX11_storeWide_2 rfl (fun q1 => ?_)
  refine z_callVv 8 (mX11_place b0 x0 q1.1 q1.2) zyX11_place rfl w_1344 (ci := 11) rfl (Nat.le_of_ble_eq_true rfl) (fun _ e9 => kX11_place e9) wm_yX11_place ws_yX11_place (Nat.le_of_ble_eq_true rfl) rfl (Nat.le_of_ble_eq_true rfl) dX11_storeWide_5 rfl (fun h2 => ?_)
  refine z_aload_n 9 0 dX11_storeWide_8 rfl rfl ?_
  refine z_getI 12 zC11 (Nat.le_of_ble_eq_true rfl) rfl w_1034 dX11_storeWide_9 rfl (fun v3 _ => ?_)
  refine z_bipush (nI 8) 14 zkb_8 dX11_storeWide_12 rfl ?_
  refine z_icmp_le 20 17 dX11_storeWide_14 (by decide) rfl (fun c4 => ?_) (fun c4 => ?_)
  · refine z_aload_n 21 0 dX11_storeWide_20 rfl rfl ?_
    refine z_callVv 24 (mX11_clearMade b0 x0 h2) zyX11_clearMade rfl w_1203 (ci := 11) rfl (Nat.le_of_ble_eq_true rfl) (fun _ e9 => kX11_clearMade e9) wm_yX11_clearMade ws_yX11_clearMade (Nat.le_of_ble_eq_true rfl) rfl (Nat.le_of_ble_eq_true rfl) dX11_storeWide_21 rfl (fun h5 => ?_)
    refine z_iconst (nI 0) 25 zki_0 dX11_storeWide_24 rfl ?_
    refine z_istore_n (lv2 := [(2, .int (nI 0)), (0, .ref (b0 + x0)), (1, .int x1)]) 26 dX11_storeWide_25 rfl (Nat.le_of_ble_eq_true rfl) rfl ?_
    exact z_sub [1, 2, 0] rfl (BX11_storeWide_26 b0 x0 x1 zfu (nI 0) h5)
  · refine z_bipush (-3 : Int32) 19 zkb_m3 dX11_storeWide_17 rfl ?_
    exact z_ireturn dX11_storeWide_19 rfl
-- X11_intersect
def bX11_intersect_122 (self31 : Int32 × ZH → Option (Int32 × ZH)) (self41 : Int32 × ZH → Option (Int32 × ZH)) (self79 : Int32 × ZH → Option (Int32 × ZH)) (x0 : Nat) (x1 : Int32) (x2 : Int32) (x3 : Int32) (x4 : Int32) (x5 : Int32) (x6 : Int32) (x7 : Int64) (x9 : Int32) (t0 : Int64) (t1 : Int64) (t2 : Int32) (t3 : Nat) (h : ZH) : Option (Int32 × ZH) :=
  (sJ h t3 t2 (t1 ||| t0)).bind fun h1 =>
  self79 ((x9 + (nI 1)), h1)
theorem BX11_intersect_122 (b0 : Nat) (self31 : Int32 × ZH → Option (Int32 × ZH)) (self41 : Int32 × ZH → Option (Int32 × ZH)) (self79 : Int32 × ZH → Option (Int32 × ZH)) (x0 : Nat) (x1 : Int32) (x2 : Int32) (x3 : Int32) (x4 : Int32) (x5 : Int32) (x6 : Int32) (x7 : Int64) (x9 : Int32) (t0 : Int64) (t1 : Int64) (t2 : Int32) (t3 : Nat) (h : ZH) (hself31 : ∀ (y4 : Int32) (hh : ZH), Zr zi b0 YX11_intersect 4 31 [(0, .ref (b0 + x0)), (1, .int x1), (2, .int x2), (3, .int x3), (4, .int y4)] [] hh (self31 (y4, hh))) (hself41 : ∀ (y5 : Int32) (hh : ZH), Zr zi b0 YX11_intersect 4 41 [(0, .ref (b0 + x0)), (1, .int x1), (2, .int x2), (3, .int x3), (4, .int x4), (5, .int y5)] [] hh (self41 (y5, hh))) (hself79 : ∀ (y9 : Int32) (hh : ZH), Zr zi b0 YX11_intersect 4 79 [(0, .ref (b0 + x0)), (1, .int x1), (2, .int x2), (3, .int x3), (4, .int x4), (5, .int x5), (6, .int x6), (7, .long x7), (9, .int y9)] [] hh (self79 (y9, hh))) : Zr zi b0 YX11_intersect 4 122 [(0, .ref (b0 + x0)), (1, .int x1), (2, .int x2), (3, .int x3), (4, .int x4), (5, .int x5), (6, .int x6), (7, .long x7), (9, .int x9)] [.long t0, .long t1, .int t2, .ref (b0 + t3)] h (bX11_intersect_122 self31 self41 self79 x0 x1 x2 x3 x4 x5 x6 x7 x9 t0 t1 t2 t3 h) := by
  unfold bX11_intersect_122
  refine z_lor 123 dX11_intersect_122 rfl ?_
  refine z_lastore 124 dX11_intersect_123 rfl (fun h1 _ => ?_)
  refine z_iinc (lv2 := [(9, .int (x9 + (nI 1))), (0, .ref (b0 + x0)), (1, .int x1), (2, .int x2), (3, .int x3), (4, .int x4), (5, .int x5), (6, .int x6), (7, .long x7)]) (nI 1) 127 8 dX11_intersect_124 rfl rfl zki_1 (Nat.le_of_ble_eq_true rfl) rfl ?_
  refine z_goto 79 dX11_intersect_127 (by decide) ?_
  exact z_sub [1, 2, 3, 4, 5, 6, 7, 8, 0] rfl (hself79 (x9 + (nI 1)) h1)
def kX11_intersect_79 (self31 : Int32 × ZH → Option (Int32 × ZH)) (self41 : Int32 × ZH → Option (Int32 × ZH)) (x0 : Nat) (x1 : Int32) (x2 : Int32) (x3 : Int32) (x4 : Int32) (x5 : Int32) (x6 : Int32) (x7 : Int64) (self79 : Int32 × ZH → Option (Int32 × ZH)) (x9 : Int32) (h : ZH) : Option (Int32 × ZH) :=
  if (nI 8) ≤ x9 then (self41 ((x5 + (nI 1)), h)) else
  ((gR h 11 x0 39).bind fun v2 =>
  zl (((nI 4) * x4) + x5) fun v3 =>
  (lJ h v2 v3).bind fun v4 =>
  if ((jshr x6 x9) &&& (nI 1)) = (nI 1) then (bX11_intersect_122 self31 self41 self79 x0 x1 x2 x3 x4 x5 x6 x7 x9 (jlshl x7 ((nI 8) * x9)) v4 v3 v2 h) else
  (bX11_intersect_122 self31 self41 self79 x0 x1 x2 x3 x4 x5 x6 x7 x9 (lN 0) v4 v3 v2 h))
def lX11_intersect_79 (self31 : Int32 × ZH → Option (Int32 × ZH)) (self41 : Int32 × ZH → Option (Int32 × ZH)) (x0 : Nat) (x1 : Int32) (x2 : Int32) (x3 : Int32) (x4 : Int32) (x5 : Int32) (x6 : Int32) (x7 : Int64) : (Int32 × ZH → Option (Int32 × ZH)) → Int32 × ZH → Option (Int32 × ZH) := fun self s => kX11_intersect_79 self31 self41 x0 x1 x2 x3 x4 x5 x6 x7 self s.1 s.2
theorem KX11_intersect_79 (b0 : Nat) (self31 : Int32 × ZH → Option (Int32 × ZH)) (self41 : Int32 × ZH → Option (Int32 × ZH)) (x0 : Nat) (x1 : Int32) (x2 : Int32) (x3 : Int32) (x4 : Int32) (x5 : Int32) (x6 : Int32) (x7 : Int64) (hself31 : ∀ (y4 : Int32) (hh : ZH), Zr zi b0 YX11_intersect 4 31 [(0, .ref (b0 + x0)), (1, .int x1), (2, .int x2), (3, .int x3), (4, .int y4)] [] hh (self31 (y4, hh))) (hself41 : ∀ (y5 : Int32) (hh : ZH), Zr zi b0 YX11_intersect 4 41 [(0, .ref (b0 + x0)), (1, .int x1), (2, .int x2), (3, .int x3), (4, .int x4), (5, .int y5)] [] hh (self41 (y5, hh))) (self79 : Int32 × ZH → Option (Int32 × ZH)) (hself79 : ∀ (y9 : Int32) (hh : ZH), Zr zi b0 YX11_intersect 4 79 [(0, .ref (b0 + x0)), (1, .int x1), (2, .int x2), (3, .int x3), (4, .int x4), (5, .int x5), (6, .int x6), (7, .long x7), (9, .int y9)] [] hh (self79 (y9, hh))) (x9 : Int32) (h : ZH) : Zr zi b0 YX11_intersect 4 79 [(0, .ref (b0 + x0)), (1, .int x1), (2, .int x2), (3, .int x3), (4, .int x4), (5, .int x5), (6, .int x6), (7, .long x7), (9, .int x9)] [] h (kX11_intersect_79 self31 self41 x0 x1 x2 x3 x4 x5 x6 x7 self79 x9 h) := by
  unfold kX11_intersect_79
  refine z_iload 81 8 dX11_intersect_79 rfl rfl ?_
  refine z_bipush (nI 8) 83 zkb_8 dX11_intersect_81 rfl ?_
  refine z_icmp_ge 130 86 dX11_intersect_83 (by decide) rfl (fun c1 => ?_) (fun c1 => ?_)
  · refine z_iinc (lv2 := [(5, .int (x5 + (nI 1))), (0, .ref (b0 + x0)), (1, .int x1), (2, .int x2), (3, .int x3), (4, .int x4), (6, .int x6), (7, .long x7), (9, .int x9)]) (nI 1) 133 5 dX11_intersect_130 rfl rfl zki_1 (Nat.le_of_ble_eq_true rfl) rfl ?_
    refine z_goto 41 dX11_intersect_133 (by decide) ?_
    exact z_sub [1, 2, 3, 4, 5, 0] rfl (hself41 (x5 + (nI 1)) h)
  · refine z_aload_n 87 0 dX11_intersect_86 rfl rfl ?_
    refine z_getR 90 zC11 (Nat.le_of_ble_eq_true rfl) rfl w_1056 dX11_intersect_87 rfl (fun v2 _ => ?_)
    refine z_iconst (nI 4) 91 zki_4 dX11_intersect_90 rfl ?_
    refine z_iload 93 4 dX11_intersect_91 rfl rfl ?_
    refine z_imul 94 dX11_intersect_93 rfl ?_
    refine z_iload 96 5 dX11_intersect_94 rfl rfl ?_
    refine z_iadd 97 dX11_intersect_96 rfl ?_
    refine z_letI (fun v3 _ => ?_)
    refine z_dup2 98 rfl rfl dX11_intersect_97 rfl ?_
    refine z_laload 99 dX11_intersect_98 rfl (fun v4 _ => ?_)
    refine z_iload 101 6 dX11_intersect_99 rfl rfl ?_
    refine z_iload 103 8 dX11_intersect_101 rfl rfl ?_
    refine z_ishr 104 dX11_intersect_103 rfl ?_
    refine z_iconst (nI 1) 105 zki_1 dX11_intersect_104 rfl ?_
    refine z_iand 106 dX11_intersect_105 rfl ?_
    refine z_iconst (nI 1) 107 zki_1 dX11_intersect_106 rfl ?_
    refine z_icmp_ne 121 110 dX11_intersect_107 (by decide) rfl (fun c5 => ?_) (fun c5 => ?_)
    · refine z_lconst (lN 0) 122 rfl dX11_intersect_121 rfl ?_
      exact z_sub [0, 1, 2, 3, 4, 5, 6, 7, 8] rfl (BX11_intersect_122 b0 self31 self41 self79 x0 x1 x2 x3 x4 x5 x6 x7 x9 (lN 0) v4 v3 v2 h hself31 hself41 hself79)
    · refine z_lload 112 7 dX11_intersect_110 rfl rfl ?_
      refine z_bipush (nI 8) 114 zkb_8 dX11_intersect_112 rfl ?_
      refine z_iload 116 8 dX11_intersect_114 rfl rfl ?_
      refine z_imul 117 dX11_intersect_116 rfl ?_
      refine z_lshl 118 dX11_intersect_117 rfl ?_
      refine z_goto 122 dX11_intersect_118 (by decide) ?_
      exact z_sub [0, 1, 2, 3, 4, 5, 6, 7, 8] rfl (BX11_intersect_122 b0 self31 self41 self79 x0 x1 x2 x3 x4 x5 x6 x7 x9 (jlshl x7 ((nI 8) * x9)) v4 v3 v2 h hself31 hself41 hself79)
theorem BX11_intersect_79 (b0 : Nat) (self31 : Int32 × ZH → Option (Int32 × ZH)) (self41 : Int32 × ZH → Option (Int32 × ZH)) (x0 : Nat) (x1 : Int32) (x2 : Int32) (x3 : Int32) (x4 : Int32) (x5 : Int32) (x6 : Int32) (x7 : Int64) (hself31 : ∀ (y4 : Int32) (hh : ZH), Zr zi b0 YX11_intersect 4 31 [(0, .ref (b0 + x0)), (1, .int x1), (2, .int x2), (3, .int x3), (4, .int y4)] [] hh (self31 (y4, hh))) (hself41 : ∀ (y5 : Int32) (hh : ZH), Zr zi b0 YX11_intersect 4 41 [(0, .ref (b0 + x0)), (1, .int x1), (2, .int x2), (3, .int x3), (4, .int x4), (5, .int y5)] [] hh (self41 (y5, hh))) (n : Nat) (x9 : Int32) (h : ZH) : Zr zi b0 YX11_intersect 4 79 [(0, .ref (b0 + x0)), (1, .int x1), (2, .int x2), (3, .int x3), (4, .int x4), (5, .int x5), (6, .int x6), (7, .long x7), (9, .int x9)] [] h (zloop (lX11_intersect_79 self31 self41 x0 x1 x2 x3 x4 x5 x6 x7) n (x9, h)) :=
  zloop_Zr (fun s => [(0, .ref (b0 + x0)), (1, .int x1), (2, .int x2), (3, .int x3), (4, .int x4), (5, .int x5), (6, .int x6), (7, .long x7), (9, .int s.1)]) (fun _ => []) (fun s => s.2) (lX11_intersect_79 self31 self41 x0 x1 x2 x3 x4 x5 x6 x7) (fun self hs s => KX11_intersect_79 b0 self31 self41 x0 x1 x2 x3 x4 x5 x6 x7 hself31 hself41 self (fun y9 hh => hs (y9, hh)) s.1 s.2) n (x9, h)
def kX11_intersect_41 (self31 : Int32 × ZH → Option (Int32 × ZH)) (x0 : Nat) (x1 : Int32) (x2 : Int32) (x3 : Int32) (x4 : Int32) (self41 : Int32 × ZH → Option (Int32 × ZH)) (x5 : Int32) (h : ZH) : Option (Int32 × ZH) :=
  if (nI 4) ≤ x5 then (self31 ((x4 + (nI 1)), h)) else
  (if (nI 8) = 0 then none else
  (fX11_to x0 x1 (x4 / (nI 8)) x5 h).bind fun q2 =>
  if (nI 8) = 0 then none else
  (fX11_to x0 x2 (jrem x4 (nI 8)) x5 q2.2).bind fun q3 =>
  zl (q3.1.toInt64) fun v4 =>
  zloop (lX11_intersect_79 self31 self41 x0 x1 x2 x3 x4 x5 q2.1 v4) zfu ((nI 0), q3.2))
def lX11_intersect_41 (self31 : Int32 × ZH → Option (Int32 × ZH)) (x0 : Nat) (x1 : Int32) (x2 : Int32) (x3 : Int32) (x4 : Int32) : (Int32 × ZH → Option (Int32 × ZH)) → Int32 × ZH → Option (Int32 × ZH) := fun self s => kX11_intersect_41 self31 x0 x1 x2 x3 x4 self s.1 s.2
theorem KX11_intersect_41 (b0 : Nat) (self31 : Int32 × ZH → Option (Int32 × ZH)) (x0 : Nat) (x1 : Int32) (x2 : Int32) (x3 : Int32) (x4 : Int32) (hself31 : ∀ (y4 : Int32) (hh : ZH), Zr zi b0 YX11_intersect 4 31 [(0, .ref (b0 + x0)), (1, .int x1), (2, .int x2), (3, .int x3), (4, .int y4)] [] hh (self31 (y4, hh))) (self41 : Int32 × ZH → Option (Int32 × ZH)) (hself41 : ∀ (y5 : Int32) (hh : ZH), Zr zi b0 YX11_intersect 4 41 [(0, .ref (b0 + x0)), (1, .int x1), (2, .int x2), (3, .int x3), (4, .int x4), (5, .int y5)] [] hh (self41 (y5, hh))) (x5 : Int32) (h : ZH) : Zr zi b0 YX11_intersect 4 41 [(0, .ref (b0 + x0)), (1, .int x1), (2, .int x2), (3, .int x3), (4, .int x4), (5, .int x5)] [] h (kX11_intersect_41 self31 x0 x1 x2 x3 x4 self41 x5 h) := by
  unfold kX11_intersect_41
  refine z_iload 43 5 dX11_intersect_41 rfl rfl ?_
  refine z_iconst (nI 4) 44 zki_4 dX11_intersect_43 rfl ?_
  refine z_icmp_ge 136 47 dX11_intersect_44 (by decide) rfl (fun c1 => ?_) (fun c1 => ?_)
  · refine z_iinc (lv2 := [(4, .int (x4 + (nI 1))), (0, .ref (b0 + x0)), (1, .int x1), (2, .int x2), (3, .int x3), (5, .int x5)]) (nI 1) 139 4 dX11_intersect_136 rfl rfl zki_1 (Nat.le_of_ble_eq_true rfl) rfl ?_
    refine z_goto 31 dX11_intersect_139 (by decide) ?_
    exact z_sub [1, 2, 3, 4, 0] rfl (hself31 (x4 + (nI 1)) h)
  · refine z_aload_n 48 0 dX11_intersect_47 rfl rfl ?_
    refine z_iload_n 49 1 dX11_intersect_48 rfl rfl ?_
    refine z_iload 51 4 dX11_intersect_49 rfl rfl ?_
    refine z_bipush (nI 8) 53 zkb_8 dX11_intersect_51 rfl ?_
    refine z_idiv 54 dX11_intersect_53 rfl (fun _ => ?_)
    refine z_iload 56 5 dX11_intersect_54 rfl rfl ?_
    refine z_callVi 59 (mX11_to b0 x0 x1 (x4 / (nI 8)) x5 h) zyX11_to rfl w_1183 (ci := 11) rfl (Nat.le_of_ble_eq_true rfl) (fun _ e9 => kX11_to e9) wm_yX11_to ws_yX11_to (Nat.le_of_ble_eq_true rfl) rfl (Nat.le_of_ble_eq_true rfl) dX11_intersect_56 rfl (fun q2 => ?_)
    refine z_istore (lv2 := [(6, .int q2.1), (0, .ref (b0 + x0)), (1, .int x1), (2, .int x2), (3, .int x3), (4, .int x4), (5, .int x5)]) 61 dX11_intersect_59 rfl (Nat.le_of_ble_eq_true rfl) rfl ?_
    refine z_aload_n 62 1 dX11_intersect_61 rfl rfl ?_
    refine z_iload_n 63 3 dX11_intersect_62 rfl rfl ?_
    refine z_iload 65 5 dX11_intersect_63 rfl rfl ?_
    refine z_bipush (nI 8) 67 zkb_8 dX11_intersect_65 rfl ?_
    refine z_irem 68 dX11_intersect_67 rfl (fun _ => ?_)
    refine z_iload 70 6 dX11_intersect_68 rfl rfl ?_
    refine z_callVi 73 (mX11_to b0 x0 x2 (jrem x4 (nI 8)) x5 q2.2) zyX11_to rfl w_1183 (ci := 11) rfl (Nat.le_of_ble_eq_true rfl) (fun _ e9 => kX11_to e9) wm_yX11_to ws_yX11_to (Nat.le_of_ble_eq_true rfl) rfl (Nat.le_of_ble_eq_true rfl) dX11_intersect_70 rfl (fun q3 => ?_)
    refine z_i2l 74 dX11_intersect_73 rfl ?_
    refine z_letJ (fun v4 _ => ?_)
    refine z_lstore (lv2 := [(7, .long v4), (6, .int q2.1), (0, .ref (b0 + x0)), (1, .int x1), (2, .int x2), (3, .int x3), (4, .int x4), (5, .int x5)]) 76 dX11_intersect_74 rfl (Nat.le_of_ble_eq_true rfl) rfl ?_
    refine z_iconst (nI 0) 77 zki_0 dX11_intersect_76 rfl ?_
    refine z_istore (lv2 := [(9, .int (nI 0)), (7, .long v4), (6, .int q2.1), (0, .ref (b0 + x0)), (1, .int x1), (2, .int x2), (3, .int x3), (4, .int x4), (5, .int x5)]) 79 dX11_intersect_77 rfl (Nat.le_of_ble_eq_true rfl) rfl ?_
    exact z_sub [3, 4, 5, 6, 7, 8, 2, 1, 0] rfl (BX11_intersect_79 b0 self31 self41 x0 x1 x2 x3 x4 x5 q2.1 v4 hself31 hself41 zfu (nI 0) q3.2)
theorem BX11_intersect_41 (b0 : Nat) (self31 : Int32 × ZH → Option (Int32 × ZH)) (x0 : Nat) (x1 : Int32) (x2 : Int32) (x3 : Int32) (x4 : Int32) (hself31 : ∀ (y4 : Int32) (hh : ZH), Zr zi b0 YX11_intersect 4 31 [(0, .ref (b0 + x0)), (1, .int x1), (2, .int x2), (3, .int x3), (4, .int y4)] [] hh (self31 (y4, hh))) (n : Nat) (x5 : Int32) (h : ZH) : Zr zi b0 YX11_intersect 4 41 [(0, .ref (b0 + x0)), (1, .int x1), (2, .int x2), (3, .int x3), (4, .int x4), (5, .int x5)] [] h (zloop (lX11_intersect_41 self31 x0 x1 x2 x3 x4) n (x5, h)) :=
  zloop_Zr (fun s => [(0, .ref (b0 + x0)), (1, .int x1), (2, .int x2), (3, .int x3), (4, .int x4), (5, .int s.1)]) (fun _ => []) (fun s => s.2) (lX11_intersect_41 self31 x0 x1 x2 x3 x4) (fun self hs s => KX11_intersect_41 b0 self31 x0 x1 x2 x3 x4 hself31 self (fun y5 hh => hs (y5, hh)) s.1 s.2) n (x5, h)
def kX11_intersect_31 (x0 : Nat) (x1 : Int32) (x2 : Int32) (x3 : Int32) (self31 : Int32 × ZH → Option (Int32 × ZH)) (x4 : Int32) (h : ZH) : Option (Int32 × ZH) :=
  if (nI 64) ≤ x4 then ((fX11_storeWide x0 x3 h).bind fun q2 =>
  some (q2.1, q2.2)) else
  (zloop (lX11_intersect_41 self31 x0 x1 x2 x3 x4) zfu ((nI 0), h))
def lX11_intersect_31 (x0 : Nat) (x1 : Int32) (x2 : Int32) (x3 : Int32) : (Int32 × ZH → Option (Int32 × ZH)) → Int32 × ZH → Option (Int32 × ZH) := fun self s => kX11_intersect_31 x0 x1 x2 x3 self s.1 s.2
theorem KX11_intersect_31 (b0 : Nat) (x0 : Nat) (x1 : Int32) (x2 : Int32) (x3 : Int32) (self31 : Int32 × ZH → Option (Int32 × ZH)) (hself31 : ∀ (y4 : Int32) (hh : ZH), Zr zi b0 YX11_intersect 4 31 [(0, .ref (b0 + x0)), (1, .int x1), (2, .int x2), (3, .int x3), (4, .int y4)] [] hh (self31 (y4, hh))) (x4 : Int32) (h : ZH) : Zr zi b0 YX11_intersect 4 31 [(0, .ref (b0 + x0)), (1, .int x1), (2, .int x2), (3, .int x3), (4, .int x4)] [] h (kX11_intersect_31 x0 x1 x2 x3 self31 x4 h) := by
  unfold kX11_intersect_31
  refine z_iload 33 4 dX11_intersect_31 rfl rfl ?_
  refine z_bipush (nI 64) 35 zkb_64 dX11_intersect_33 rfl ?_
  refine z_icmp_ge 142 38 dX11_intersect_35 (by decide) rfl (fun c1 => ?_) (fun c1 => ?_)
  · refine z_aload_n 143 0 dX11_intersect_142 rfl rfl ?_
    refine z_iload_n 144 3 dX11_intersect_143 rfl rfl ?_
    refine z_callVi 147 (mX11_storeWide b0 x0 x3 h) zyX11_storeWide rfl w_1448 (ci := 11) rfl (Nat.le_of_ble_eq_true rfl) (fun _ e9 => kX11_storeWide e9) wm_yX11_storeWide ws_yX11_storeWide (Nat.le_of_ble_eq_true rfl) rfl (Nat.le_of_ble_eq_true rfl) dX11_intersect_144 rfl (fun q2 => ?_)
    exact z_ireturn dX11_intersect_147 rfl
  · refine z_iconst (nI 0) 39 zki_0 dX11_intersect_38 rfl ?_
    refine z_istore (lv2 := [(5, .int (nI 0)), (0, .ref (b0 + x0)), (1, .int x1), (2, .int x2), (3, .int x3), (4, .int x4)]) 41 dX11_intersect_39 rfl (Nat.le_of_ble_eq_true rfl) rfl ?_
    exact z_sub [1, 2, 3, 4, 5, 0] rfl (BX11_intersect_41 b0 self31 x0 x1 x2 x3 x4 hself31 zfu (nI 0) h)
theorem BX11_intersect_31 (b0 : Nat) (x0 : Nat) (x1 : Int32) (x2 : Int32) (x3 : Int32) (n : Nat) (x4 : Int32) (h : ZH) : Zr zi b0 YX11_intersect 4 31 [(0, .ref (b0 + x0)), (1, .int x1), (2, .int x2), (3, .int x3), (4, .int x4)] [] h (zloop (lX11_intersect_31 x0 x1 x2 x3) n (x4, h)) :=
  zloop_Zr (fun s => [(0, .ref (b0 + x0)), (1, .int x1), (2, .int x2), (3, .int x3), (4, .int s.1)]) (fun _ => []) (fun s => s.2) (lX11_intersect_31 x0 x1 x2 x3) (fun self hs s => KX11_intersect_31 b0 x0 x1 x2 x3 self (fun y4 hh => hs (y4, hh)) s.1 s.2) n (x4, h)
def bX11_intersect_21 (h : ZH) : Option (Int32 × ZH) :=
  some ((-2 : Int32), h)
theorem BX11_intersect_21 (b0 : Nat) (h : ZH) : Zr zi b0 YX11_intersect 4 21 [] [] h (bX11_intersect_21 h) := by
  unfold bX11_intersect_21
  refine z_bipush (-2 : Int32) 23 zkb_m2 dX11_intersect_21 rfl ?_
  exact z_ireturn dX11_intersect_23 rfl
def fX11_intersect (x0 : Nat) (x1 : Int32) (x2 : Int32) (x3 : Int32) (h : ZH) : Option (Int32 × ZH) :=
  if x0 < zn h ∧ zK h x0 = 11 then ((fX11_isSlot x1 h).bind fun q1 =>
  if q1.1 = 0 then (bX11_intersect_21 q1.2) else
  ((fX11_isSlot x2 q1.2).bind fun q3 =>
  if q3.1 = 0 then (bX11_intersect_21 q3.2) else
  ((fX11_isSlot x3 q3.2).bind fun q5 =>
  if q5.1 = 0 then (bX11_intersect_21 q5.2) else
  ((fX11_clearWide x0 q5.2).bind fun h7 =>
  zloop (lX11_intersect_31 x0 x1 x2 x3) zfu ((nI 0), h7))))) else none
theorem kX11_intersect {x0 : Nat} {x1 : Int32} {x2 : Int32} {x3 : Int32} {h : ZH} {x : Int32 × ZH} (e : fX11_intersect x0 x1 x2 x3 h = some x) : x0 < zn h ∧ zK h x0 = 11 := by
  unfold fX11_intersect at e
  exact zguard e
theorem mX11_intersect (b0 : Nat) (x0 : Nat) (x1 : Int32) (x2 : Int32) (x3 : Int32) (h : ZH) : ZM zi b0 YX11_intersect 4 [.ref (b0 + x0), .int x1, .int x2, .int x3] h (fX11_intersect x0 x1 x2 x3 h) := by
  unfold fX11_intersect
  refine ZM.of (by decide) rfl (Nat.le_of_ble_eq_true rfl) (fun _ => trivial) ?_
  refine z_sub (lv2 := [(0, .ref (b0 + x0)), (1, .int x1), (2, .int x2), (3, .int x3)]) [0, 1, 2, 3] rfl ?_
  refine z_guard (fun _ => ?_)
  refine z_iload_n 1 1 dX11_intersect_0 rfl rfl ?_
  refine z_callSi 4 (mX11_isSlot b0 x1 h) zyX11_isSlot rfl w_1154 wt_yX11_isSlot (Nat.le_of_ble_eq_true rfl) rfl (Nat.le_of_ble_eq_true rfl) dX11_intersect_1 rfl (fun q1 => ?_)
  refine z_if_eq 21 7 dX11_intersect_4 (by decide) rfl (fun c2 => ?_) (fun c2 => ?_)
  · exact z_sub [] rfl (BX11_intersect_21 b0 q1.2 )
  · refine z_iload_n 8 2 dX11_intersect_7 rfl rfl ?_
    refine z_callSi 11 (mX11_isSlot b0 x2 q1.2) zyX11_isSlot rfl w_1154 wt_yX11_isSlot (Nat.le_of_ble_eq_true rfl) rfl (Nat.le_of_ble_eq_true rfl) dX11_intersect_8 rfl (fun q3 => ?_)
    refine z_if_eq 21 14 dX11_intersect_11 (by decide) rfl (fun c4 => ?_) (fun c4 => ?_)
    · exact z_sub [] rfl (BX11_intersect_21 b0 q3.2 )
    · refine z_iload_n 15 3 dX11_intersect_14 rfl rfl ?_
      refine z_callSi 18 (mX11_isSlot b0 x3 q3.2) zyX11_isSlot rfl w_1154 wt_yX11_isSlot (Nat.le_of_ble_eq_true rfl) rfl (Nat.le_of_ble_eq_true rfl) dX11_intersect_15 rfl (fun q5 => ?_)
      refine z_if_ne 24 21 dX11_intersect_18 (by decide) rfl (fun c6 => ?_) (fun c6 => ?_)
      · refine z_aload_n 25 0 dX11_intersect_24 rfl rfl ?_
        refine z_callVv 28 (mX11_clearWide b0 x0 q5.2) zyX11_clearWide rfl w_1444 (ci := 11) rfl (Nat.le_of_ble_eq_true rfl) (fun _ e9 => kX11_clearWide e9) wm_yX11_clearWide ws_yX11_clearWide (Nat.le_of_ble_eq_true rfl) rfl (Nat.le_of_ble_eq_true rfl) dX11_intersect_25 rfl (fun h7 => ?_)
        refine z_iconst (nI 0) 29 zki_0 dX11_intersect_28 rfl ?_
        refine z_istore (lv2 := [(4, .int (nI 0)), (0, .ref (b0 + x0)), (1, .int x1), (2, .int x2), (3, .int x3)]) 31 dX11_intersect_29 rfl (Nat.le_of_ble_eq_true rfl) rfl ?_
        exact z_sub [1, 2, 3, 4, 0] rfl (BX11_intersect_31 b0 x0 x1 x2 x3 zfu (nI 0) h7)
      · exact z_sub [] rfl (BX11_intersect_21 b0 q5.2 )
-- X11_reverse
def kX11_reverse_23 (x0 : Nat) (x1 : Int32) (x2 : Int32) (self23 : Int32 × ZH → Option (Int32 × ZH)) (x3 : Int32) (h : ZH) : Option (Int32 × ZH) :=
  if (nI 256) ≤ x3 then ((fX11_replace x0 x2 h).bind fun h2 =>
  (fX11_edgesOf x0 x2 h2).bind fun q3 =>
  some (q3.1, q3.2)) else
  (if (nI 32) = 0 then none else
  zl (x3 / (nI 32)) fun v4 =>
  if (nI 8) = 0 then none else
  if (nI 4) = 0 then none else
  zl (jrem (x3 / (nI 8)) (nI 4)) fun v5 =>
  (gR h 11 x0 1).bind fun v6 =>
  if (nI 8) = 0 then none else
  zl (((nI 4) * (jrem x3 (nI 8))) + v5) fun v7 =>
  (lI h 14 v6 v7).bind fun v8 =>
  (fX11_to x0 x1 v4 v5 h).bind fun q9 =>
  if (nI 8) = 0 then none else
  (sI q9.2 14 v6 v7 (v8 ||| (jshl ((jshr q9.1 (jrem x3 (nI 8))) &&& (nI 1)) v4))).bind fun h10 =>
  self23 ((x3 + (nI 1)), h10))
def lX11_reverse_23 (x0 : Nat) (x1 : Int32) (x2 : Int32) : (Int32 × ZH → Option (Int32 × ZH)) → Int32 × ZH → Option (Int32 × ZH) := fun self s => kX11_reverse_23 x0 x1 x2 self s.1 s.2
theorem KX11_reverse_23 (b0 : Nat) (x0 : Nat) (x1 : Int32) (x2 : Int32) (self23 : Int32 × ZH → Option (Int32 × ZH)) (hself23 : ∀ (y3 : Int32) (hh : ZH), Zr zi b0 YX11_reverse 3 23 [(0, .ref (b0 + x0)), (1, .int x1), (2, .int x2), (3, .int y3)] [] hh (self23 (y3, hh))) (x3 : Int32) (h : ZH) : Zr zi b0 YX11_reverse 3 23 [(0, .ref (b0 + x0)), (1, .int x1), (2, .int x2), (3, .int x3)] [] h (kX11_reverse_23 x0 x1 x2 self23 x3 h) := by
  unfold kX11_reverse_23
  refine z_iload_n 24 3 dX11_reverse_23 rfl rfl ?_
  refine z_sipush (nI 256) 27 zks_256 dX11_reverse_24 rfl ?_
  refine z_icmp_ge 86 30 dX11_reverse_27 (by decide) rfl (fun c1 => ?_) (fun c1 => ?_)
  · refine z_aload_n 87 0 dX11_reverse_86 rfl rfl ?_
    refine z_iload_n 88 2 dX11_reverse_87 rfl rfl ?_
    refine z_callVv 91 (mX11_replace b0 x0 x2 h) zyX11_replace rfl w_1170 (ci := 11) rfl (Nat.le_of_ble_eq_true rfl) (fun _ e9 => kX11_replace e9) wm_yX11_replace ws_yX11_replace (Nat.le_of_ble_eq_true rfl) rfl (Nat.le_of_ble_eq_true rfl) dX11_reverse_88 rfl (fun h2 => ?_)
    refine z_aload_n 92 0 dX11_reverse_91 rfl rfl ?_
    refine z_iload_n 93 2 dX11_reverse_92 rfl rfl ?_
    refine z_callVi 96 (mX11_edgesOf b0 x0 x2 h2) zyX11_edgesOf rfl w_1174 (ci := 11) rfl (Nat.le_of_ble_eq_true rfl) (fun _ e9 => kX11_edgesOf e9) wm_yX11_edgesOf ws_yX11_edgesOf (Nat.le_of_ble_eq_true rfl) rfl (Nat.le_of_ble_eq_true rfl) dX11_reverse_93 rfl (fun q3 => ?_)
    exact z_ireturn dX11_reverse_96 rfl
  · refine z_iload_n 31 3 dX11_reverse_30 rfl rfl ?_
    refine z_bipush (nI 32) 33 zkb_32 dX11_reverse_31 rfl ?_
    refine z_idiv 34 dX11_reverse_33 rfl (fun _ => ?_)
    refine z_letI (fun v4 _ => ?_)
    refine z_istore (lv2 := [(4, .int v4), (0, .ref (b0 + x0)), (1, .int x1), (2, .int x2), (3, .int x3)]) 36 dX11_reverse_34 rfl (Nat.le_of_ble_eq_true rfl) rfl ?_
    refine z_iload_n 37 4 dX11_reverse_36 rfl rfl ?_
    refine z_bipush (nI 8) 39 zkb_8 dX11_reverse_37 rfl ?_
    refine z_idiv 40 dX11_reverse_39 rfl (fun _ => ?_)
    refine z_iconst (nI 4) 41 zki_4 dX11_reverse_40 rfl ?_
    refine z_irem 42 dX11_reverse_41 rfl (fun _ => ?_)
    refine z_letI (fun v5 _ => ?_)
    refine z_istore (lv2 := [(5, .int v5), (4, .int v4), (0, .ref (b0 + x0)), (1, .int x1), (2, .int x2), (3, .int x3)]) 44 dX11_reverse_42 rfl (Nat.le_of_ble_eq_true rfl) rfl ?_
    refine z_aload_n 45 2 dX11_reverse_44 rfl rfl ?_
    refine z_getR 48 zC11 (Nat.le_of_ble_eq_true rfl) rfl w_1018 dX11_reverse_45 rfl (fun v6 _ => ?_)
    refine z_iconst (nI 4) 49 zki_4 dX11_reverse_48 rfl ?_
    refine z_iload_n 50 5 dX11_reverse_49 rfl rfl ?_
    refine z_bipush (nI 8) 52 zkb_8 dX11_reverse_50 rfl ?_
    refine z_irem 53 dX11_reverse_52 rfl (fun _ => ?_)
    refine z_imul 54 dX11_reverse_53 rfl ?_
    refine z_iload 56 0 dX11_reverse_54 rfl rfl ?_
    refine z_iadd 57 dX11_reverse_56 rfl ?_
    refine z_letI (fun v7 _ => ?_)
    refine z_dup2 58 rfl rfl dX11_reverse_57 rfl ?_
    refine z_iaload 59 dX11_reverse_58 rfl (fun v8 _ => ?_)
    refine z_aload_n 60 2 dX11_reverse_59 rfl rfl ?_
    refine z_iload_n 61 3 dX11_reverse_60 rfl rfl ?_
    refine z_iload 63 1 dX11_reverse_61 rfl rfl ?_
    refine z_iload 65 0 dX11_reverse_63 rfl rfl ?_
    refine z_callVi 68 (mX11_to b0 x0 x1 v4 v5 h) zyX11_to rfl w_1183 (ci := 11) rfl (Nat.le_of_ble_eq_true rfl) (fun _ e9 => kX11_to e9) wm_yX11_to ws_yX11_to (Nat.le_of_ble_eq_true rfl) rfl (Nat.le_of_ble_eq_true rfl) dX11_reverse_65 rfl (fun q9 => ?_)
    refine z_iload_n 69 5 dX11_reverse_68 rfl rfl ?_
    refine z_bipush (nI 8) 71 zkb_8 dX11_reverse_69 rfl ?_
    refine z_irem 72 dX11_reverse_71 rfl (fun _ => ?_)
    refine z_ishr 73 dX11_reverse_72 rfl ?_
    refine z_iconst (nI 1) 74 zki_1 dX11_reverse_73 rfl ?_
    refine z_iand 75 dX11_reverse_74 rfl ?_
    refine z_iload 77 1 dX11_reverse_75 rfl rfl ?_
    refine z_ishl 78 dX11_reverse_77 rfl ?_
    refine z_ior 79 dX11_reverse_78 rfl ?_
    refine z_iastore 80 dX11_reverse_79 rfl (fun h10 _ => ?_)
    refine z_iinc (lv2 := [(3, .int (x3 + (nI 1))), (5, .int v5), (4, .int v4), (0, .ref (b0 + x0)), (1, .int x1), (2, .int x2)]) (nI 1) 83 5 dX11_reverse_80 rfl rfl zki_1 (Nat.le_of_ble_eq_true rfl) rfl ?_
    refine z_goto 23 dX11_reverse_83 (by decide) ?_
    exact z_sub [3, 4, 5, 0] rfl (hself23 (x3 + (nI 1)) h10)
theorem BX11_reverse_23 (b0 : Nat) (x0 : Nat) (x1 : Int32) (x2 : Int32) (n : Nat) (x3 : Int32) (h : ZH) : Zr zi b0 YX11_reverse 3 23 [(0, .ref (b0 + x0)), (1, .int x1), (2, .int x2), (3, .int x3)] [] h (zloop (lX11_reverse_23 x0 x1 x2) n (x3, h)) :=
  zloop_Zr (fun s => [(0, .ref (b0 + x0)), (1, .int x1), (2, .int x2), (3, .int s.1)]) (fun _ => []) (fun s => s.2) (lX11_reverse_23 x0 x1 x2) (fun self hs s => KX11_reverse_23 b0 x0 x1 x2 self (fun y3 hh => hs (y3, hh)) s.1 s.2) n (x3, h)
def bX11_reverse_14 (h : ZH) : Option (Int32 × ZH) :=
  some ((-2 : Int32), h)
theorem BX11_reverse_14 (b0 : Nat) (h : ZH) : Zr zi b0 YX11_reverse 3 14 [] [] h (bX11_reverse_14 h) := by
  unfold bX11_reverse_14
  refine z_bipush (-2 : Int32) 16 zkb_m2 dX11_reverse_14 rfl ?_
  exact z_ireturn dX11_reverse_16 rfl
def fX11_reverse (x0 : Nat) (x1 : Int32) (x2 : Int32) (h : ZH) : Option (Int32 × ZH) :=
  if x0 < zn h ∧ zK h x0 = 11 then ((fX11_isSlot x1 h).bind fun q1 =>
  if q1.1 = 0 then (bX11_reverse_14 q1.2) else
  ((fX11_isSlot x2 q1.2).bind fun q3 =>
  if q3.1 = 0 then (bX11_reverse_14 q3.2) else
  ((fX11_clearMade x0 q3.2).bind fun h5 =>
  zloop (lX11_reverse_23 x0 x1 x2) zfu ((nI 0), h5)))) else none
theorem kX11_reverse {x0 : Nat} {x1 : Int32} {x2 : Int32} {h : ZH} {x : Int32 × ZH} (e : fX11_reverse x0 x1 x2 h = some x) : x0 < zn h ∧ zK h x0 = 11 := by
  unfold fX11_reverse at e
  exact zguard e
theorem mX11_reverse (b0 : Nat) (x0 : Nat) (x1 : Int32) (x2 : Int32) (h : ZH) : ZM zi b0 YX11_reverse 3 [.ref (b0 + x0), .int x1, .int x2] h (fX11_reverse x0 x1 x2 h) := by
  unfold fX11_reverse
  refine ZM.of (by decide) rfl (Nat.le_of_ble_eq_true rfl) (fun _ => trivial) ?_
  refine z_sub (lv2 := [(0, .ref (b0 + x0)), (1, .int x1), (2, .int x2)]) [0, 1, 2] rfl ?_
  refine z_guard (fun _ => ?_)
  refine z_iload_n 1 1 dX11_reverse_0 rfl rfl ?_
  refine z_callSi 4 (mX11_isSlot b0 x1 h) zyX11_isSlot rfl w_1154 wt_yX11_isSlot (Nat.le_of_ble_eq_true rfl) rfl (Nat.le_of_ble_eq_true rfl) dX11_reverse_1 rfl (fun q1 => ?_)
  refine z_if_eq 14 7 dX11_reverse_4 (by decide) rfl (fun c2 => ?_) (fun c2 => ?_)
  · exact z_sub [] rfl (BX11_reverse_14 b0 q1.2 )
  · refine z_iload_n 8 2 dX11_reverse_7 rfl rfl ?_
    refine z_callSi 11 (mX11_isSlot b0 x2 q1.2) zyX11_isSlot rfl w_1154 wt_yX11_isSlot (Nat.le_of_ble_eq_true rfl) rfl (Nat.le_of_ble_eq_true rfl) dX11_reverse_8 rfl (fun q3 => ?_)
    refine z_if_ne 17 14 dX11_reverse_11 (by decide) rfl (fun c4 => ?_) (fun c4 => ?_)
    · refine z_aload_n 18 0 dX11_reverse_17 rfl rfl ?_
      refine z_callVv 21 (mX11_clearMade b0 x0 q3.2) zyX11_clearMade rfl w_1203 (ci := 11) rfl (Nat.le_of_ble_eq_true rfl) (fun _ e9 => kX11_clearMade e9) wm_yX11_clearMade ws_yX11_clearMade (Nat.le_of_ble_eq_true rfl) rfl (Nat.le_of_ble_eq_true rfl) dX11_reverse_18 rfl (fun h5 => ?_)
      refine z_iconst (nI 0) 22 zki_0 dX11_reverse_21 rfl ?_
      refine z_istore_n (lv2 := [(3, .int (nI 0)), (0, .ref (b0 + x0)), (1, .int x1), (2, .int x2)]) 23 dX11_reverse_22 rfl (Nat.le_of_ble_eq_true rfl) rfl ?_
      exact z_sub [1, 2, 3, 0] rfl (BX11_reverse_23 b0 x0 x1 x2 zfu (nI 0) h5)
    · exact z_sub [] rfl (BX11_reverse_14 b0 q3.2 )
-- X11_relabel
def bX11_relabel_62 (self39 : Int32 × ZH → Option (Int32 × ZH)) (x0 : Nat) (x1 : Int32) (x2 : Int32) (x3 : Int32) (x4 : Int32) (x5 : Int32) (t0 : Int32) (h : ZH) : Option (Int32 × ZH) :=
  (gR h 11 x0 1).bind fun v1 =>
  if (nI 4) = 0 then none else
  zl ((x5 - (jrem x5 (nI 4))) + t0) fun v2 =>
  (lI h 14 v1 v2).bind fun v3 =>
  (gR h 11 x0 0).bind fun v4 =>
  (lI h 14 v4 (((nI 32) * x1) + x5)).bind fun v5 =>
  (sI h 14 v1 v2 (v3 ||| v5)).bind fun h6 =>
  self39 ((x5 + (nI 1)), h6)
theorem BX11_relabel_62 (b0 : Nat) (self39 : Int32 × ZH → Option (Int32 × ZH)) (x0 : Nat) (x1 : Int32) (x2 : Int32) (x3 : Int32) (x4 : Int32) (x5 : Int32) (t0 : Int32) (h : ZH) (hself39 : ∀ (y5 : Int32) (hh : ZH), Zr zi b0 YX11_relabel 3 39 [(0, .ref (b0 + x0)), (1, .int x1), (2, .int x2), (3, .int x3), (4, .int x4), (5, .int y5)] [] hh (self39 (y5, hh))) : Zr zi b0 YX11_relabel 3 62 [(0, .ref (b0 + x0)), (1, .int x1), (2, .int x2), (3, .int x3), (4, .int x4), (5, .int x5)] [.int t0] h (bX11_relabel_62 self39 x0 x1 x2 x3 x4 x5 t0 h) := by
  unfold bX11_relabel_62
  refine z_istore (lv2 := [(6, .int t0), (0, .ref (b0 + x0)), (1, .int x1), (2, .int x2), (3, .int x3), (4, .int x4), (5, .int x5)]) 64 dX11_relabel_62 rfl (Nat.le_of_ble_eq_true rfl) rfl ?_
  refine z_aload_n 65 1 dX11_relabel_64 rfl rfl ?_
  refine z_getR 68 zC11 (Nat.le_of_ble_eq_true rfl) rfl w_1018 dX11_relabel_65 rfl (fun v1 _ => ?_)
  refine z_iload 70 6 dX11_relabel_68 rfl rfl ?_
  refine z_iload 72 6 dX11_relabel_70 rfl rfl ?_
  refine z_iconst (nI 4) 73 zki_4 dX11_relabel_72 rfl ?_
  refine z_irem 74 dX11_relabel_73 rfl (fun _ => ?_)
  refine z_isub 75 dX11_relabel_74 rfl ?_
  refine z_iload 77 0 dX11_relabel_75 rfl rfl ?_
  refine z_iadd 78 dX11_relabel_77 rfl ?_
  refine z_letI (fun v2 _ => ?_)
  refine z_dup2 79 rfl rfl dX11_relabel_78 rfl ?_
  refine z_iaload 80 dX11_relabel_79 rfl (fun v3 _ => ?_)
  refine z_aload_n 81 1 dX11_relabel_80 rfl rfl ?_
  refine z_getR 84 zC11 (Nat.le_of_ble_eq_true rfl) rfl w_1017 dX11_relabel_81 rfl (fun v4 _ => ?_)
  refine z_bipush (nI 32) 86 zkb_32 dX11_relabel_84 rfl ?_
  refine z_iload_n 87 2 dX11_relabel_86 rfl rfl ?_
  refine z_imul 88 dX11_relabel_87 rfl ?_
  refine z_iload 90 6 dX11_relabel_88 rfl rfl ?_
  refine z_iadd 91 dX11_relabel_90 rfl ?_
  refine z_iaload 92 dX11_relabel_91 rfl (fun v5 _ => ?_)
  refine z_ior 93 dX11_relabel_92 rfl ?_
  refine z_iastore 94 dX11_relabel_93 rfl (fun h6 _ => ?_)
  refine z_iinc (lv2 := [(5, .int (x5 + (nI 1))), (6, .int t0), (0, .ref (b0 + x0)), (1, .int x1), (2, .int x2), (3, .int x3), (4, .int x4)]) (nI 1) 97 6 dX11_relabel_94 rfl rfl zki_1 (Nat.le_of_ble_eq_true rfl) rfl ?_
  refine z_goto 39 dX11_relabel_97 (by decide) ?_
  exact z_sub [2, 3, 4, 5, 6, 0] rfl (hself39 (x5 + (nI 1)) h6)
def kX11_relabel_39 (x0 : Nat) (x1 : Int32) (x2 : Int32) (x3 : Int32) (x4 : Int32) (self39 : Int32 × ZH → Option (Int32 × ZH)) (x5 : Int32) (h : ZH) : Option (Int32 × ZH) :=
  if (nI 32) ≤ x5 then ((fX11_replace x0 x4 h).bind fun h2 =>
  (fX11_edgesOf x0 x4 h2).bind fun q3 =>
  some (q3.1, q3.2)) else
  (if (nI 4) = 0 then none else
  if (jrem x5 (nI 4)) = x2 then (bX11_relabel_62 self39 x0 x1 x2 x3 x4 x5 x3 h) else
  (if (nI 4) = 0 then none else
  bX11_relabel_62 self39 x0 x1 x2 x3 x4 x5 (jrem x5 (nI 4)) h))
def lX11_relabel_39 (x0 : Nat) (x1 : Int32) (x2 : Int32) (x3 : Int32) (x4 : Int32) : (Int32 × ZH → Option (Int32 × ZH)) → Int32 × ZH → Option (Int32 × ZH) := fun self s => kX11_relabel_39 x0 x1 x2 x3 x4 self s.1 s.2
theorem KX11_relabel_39 (b0 : Nat) (x0 : Nat) (x1 : Int32) (x2 : Int32) (x3 : Int32) (x4 : Int32) (self39 : Int32 × ZH → Option (Int32 × ZH)) (hself39 : ∀ (y5 : Int32) (hh : ZH), Zr zi b0 YX11_relabel 3 39 [(0, .ref (b0 + x0)), (1, .int x1), (2, .int x2), (3, .int x3), (4, .int x4), (5, .int y5)] [] hh (self39 (y5, hh))) (x5 : Int32) (h : ZH) : Zr zi b0 YX11_relabel 3 39 [(0, .ref (b0 + x0)), (1, .int x1), (2, .int x2), (3, .int x3), (4, .int x4), (5, .int x5)] [] h (kX11_relabel_39 x0 x1 x2 x3 x4 self39 x5 h) := by
  unfold kX11_relabel_39
  refine z_iload 41 5 dX11_relabel_39 rfl rfl ?_
  refine z_bipush (nI 32) 43 zkb_32 dX11_relabel_41 rfl ?_
  refine z_icmp_ge 100 46 dX11_relabel_43 (by decide) rfl (fun c1 => ?_) (fun c1 => ?_)
  · refine z_aload_n 101 0 dX11_relabel_100 rfl rfl ?_
    refine z_iload 103 4 dX11_relabel_101 rfl rfl ?_
    refine z_callVv 106 (mX11_replace b0 x0 x4 h) zyX11_replace rfl w_1170 (ci := 11) rfl (Nat.le_of_ble_eq_true rfl) (fun _ e9 => kX11_replace e9) wm_yX11_replace ws_yX11_replace (Nat.le_of_ble_eq_true rfl) rfl (Nat.le_of_ble_eq_true rfl) dX11_relabel_103 rfl (fun h2 => ?_)
    refine z_aload_n 107 0 dX11_relabel_106 rfl rfl ?_
    refine z_iload 109 4 dX11_relabel_107 rfl rfl ?_
    refine z_callVi 112 (mX11_edgesOf b0 x0 x4 h2) zyX11_edgesOf rfl w_1174 (ci := 11) rfl (Nat.le_of_ble_eq_true rfl) (fun _ e9 => kX11_edgesOf e9) wm_yX11_edgesOf ws_yX11_edgesOf (Nat.le_of_ble_eq_true rfl) rfl (Nat.le_of_ble_eq_true rfl) dX11_relabel_109 rfl (fun q3 => ?_)
    exact z_ireturn dX11_relabel_112 rfl
  · refine z_iload 48 5 dX11_relabel_46 rfl rfl ?_
    refine z_iconst (nI 4) 49 zki_4 dX11_relabel_48 rfl ?_
    refine z_irem 50 dX11_relabel_49 rfl (fun _ => ?_)
    refine z_iload_n 51 2 dX11_relabel_50 rfl rfl ?_
    refine z_icmp_ne 58 54 dX11_relabel_51 (by decide) rfl (fun c4 => ?_) (fun c4 => ?_)
    · refine z_iload 60 5 dX11_relabel_58 rfl rfl ?_
      refine z_iconst (nI 4) 61 zki_4 dX11_relabel_60 rfl ?_
      refine z_irem 62 dX11_relabel_61 rfl (fun _ => ?_)
      exact z_sub [0, 1, 2, 3, 4, 5] rfl (BX11_relabel_62 b0 self39 x0 x1 x2 x3 x4 x5 (jrem x5 (nI 4)) h hself39)
    · refine z_iload_n 55 3 dX11_relabel_54 rfl rfl ?_
      refine z_goto 62 dX11_relabel_55 (by decide) ?_
      exact z_sub [0, 1, 2, 3, 4, 5] rfl (BX11_relabel_62 b0 self39 x0 x1 x2 x3 x4 x5 x3 h hself39)
theorem BX11_relabel_39 (b0 : Nat) (x0 : Nat) (x1 : Int32) (x2 : Int32) (x3 : Int32) (x4 : Int32) (n : Nat) (x5 : Int32) (h : ZH) : Zr zi b0 YX11_relabel 3 39 [(0, .ref (b0 + x0)), (1, .int x1), (2, .int x2), (3, .int x3), (4, .int x4), (5, .int x5)] [] h (zloop (lX11_relabel_39 x0 x1 x2 x3 x4) n (x5, h)) :=
  zloop_Zr (fun s => [(0, .ref (b0 + x0)), (1, .int x1), (2, .int x2), (3, .int x3), (4, .int x4), (5, .int s.1)]) (fun _ => []) (fun s => s.2) (lX11_relabel_39 x0 x1 x2 x3 x4) (fun self hs s => KX11_relabel_39 b0 x0 x1 x2 x3 x4 self (fun y5 hh => hs (y5, hh)) s.1 s.2) n (x5, h)
def bX11_relabel_29 (h : ZH) : Option (Int32 × ZH) :=
  some ((-2 : Int32), h)
theorem BX11_relabel_29 (b0 : Nat) (h : ZH) : Zr zi b0 YX11_relabel 3 29 [] [] h (bX11_relabel_29 h) := by
  unfold bX11_relabel_29
  refine z_bipush (-2 : Int32) 31 zkb_m2 dX11_relabel_29 rfl ?_
  exact z_ireturn dX11_relabel_31 rfl
def fX11_relabel (x0 : Nat) (x1 : Int32) (x2 : Int32) (x3 : Int32) (x4 : Int32) (h : ZH) : Option (Int32 × ZH) :=
  if x0 < zn h ∧ zK h x0 = 11 then ((fX11_isSlot x1 h).bind fun q1 =>
  if q1.1 = 0 then (bX11_relabel_29 q1.2) else
  ((fX11_isLetter x2 q1.2).bind fun q3 =>
  if q3.1 = 0 then (bX11_relabel_29 q3.2) else
  ((fX11_isLetter x3 q3.2).bind fun q5 =>
  if q5.1 = 0 then (bX11_relabel_29 q5.2) else
  ((fX11_isSlot x4 q5.2).bind fun q7 =>
  if q7.1 = 0 then (bX11_relabel_29 q7.2) else
  ((fX11_clearMade x0 q7.2).bind fun h9 =>
  zloop (lX11_relabel_39 x0 x1 x2 x3 x4) zfu ((nI 0), h9)))))) else none
theorem kX11_relabel {x0 : Nat} {x1 : Int32} {x2 : Int32} {x3 : Int32} {x4 : Int32} {h : ZH} {x : Int32 × ZH} (e : fX11_relabel x0 x1 x2 x3 x4 h = some x) : x0 < zn h ∧ zK h x0 = 11 := by
  unfold fX11_relabel at e
  exact zguard e
theorem mX11_relabel (b0 : Nat) (x0 : Nat) (x1 : Int32) (x2 : Int32) (x3 : Int32) (x4 : Int32) (h : ZH) : ZM zi b0 YX11_relabel 3 [.ref (b0 + x0), .int x1, .int x2, .int x3, .int x4] h (fX11_relabel x0 x1 x2 x3 x4 h) := by
  unfold fX11_relabel
  refine ZM.of (by decide) rfl (Nat.le_of_ble_eq_true rfl) (fun _ => trivial) ?_
  refine z_sub (lv2 := [(0, .ref (b0 + x0)), (1, .int x1), (2, .int x2), (3, .int x3), (4, .int x4)]) [0, 1, 2, 3, 4] rfl ?_
  refine z_guard (fun _ => ?_)
  refine z_iload_n 1 1 dX11_relabel_0 rfl rfl ?_
  refine z_callSi 4 (mX11_isSlot b0 x1 h) zyX11_isSlot rfl w_1154 wt_yX11_isSlot (Nat.le_of_ble_eq_true rfl) rfl (Nat.le_of_ble_eq_true rfl) dX11_relabel_1 rfl (fun q1 => ?_)
  refine z_if_eq 29 7 dX11_relabel_4 (by decide) rfl (fun c2 => ?_) (fun c2 => ?_)
  · exact z_sub [] rfl (BX11_relabel_29 b0 q1.2 )
  · refine z_iload_n 8 2 dX11_relabel_7 rfl rfl ?_
    refine z_callSi 11 (mX11_isLetter b0 x2 q1.2) zyX11_isLetter rfl w_1163 wt_yX11_isLetter (Nat.le_of_ble_eq_true rfl) rfl (Nat.le_of_ble_eq_true rfl) dX11_relabel_8 rfl (fun q3 => ?_)
    refine z_if_eq 29 14 dX11_relabel_11 (by decide) rfl (fun c4 => ?_) (fun c4 => ?_)
    · exact z_sub [] rfl (BX11_relabel_29 b0 q3.2 )
    · refine z_iload_n 15 3 dX11_relabel_14 rfl rfl ?_
      refine z_callSi 18 (mX11_isLetter b0 x3 q3.2) zyX11_isLetter rfl w_1163 wt_yX11_isLetter (Nat.le_of_ble_eq_true rfl) rfl (Nat.le_of_ble_eq_true rfl) dX11_relabel_15 rfl (fun q5 => ?_)
      refine z_if_eq 29 21 dX11_relabel_18 (by decide) rfl (fun c6 => ?_) (fun c6 => ?_)
      · exact z_sub [] rfl (BX11_relabel_29 b0 q5.2 )
      · refine z_iload 23 4 dX11_relabel_21 rfl rfl ?_
        refine z_callSi 26 (mX11_isSlot b0 x4 q5.2) zyX11_isSlot rfl w_1154 wt_yX11_isSlot (Nat.le_of_ble_eq_true rfl) rfl (Nat.le_of_ble_eq_true rfl) dX11_relabel_23 rfl (fun q7 => ?_)
        refine z_if_ne 32 29 dX11_relabel_26 (by decide) rfl (fun c8 => ?_) (fun c8 => ?_)
        · refine z_aload_n 33 0 dX11_relabel_32 rfl rfl ?_
          refine z_callVv 36 (mX11_clearMade b0 x0 q7.2) zyX11_clearMade rfl w_1203 (ci := 11) rfl (Nat.le_of_ble_eq_true rfl) (fun _ e9 => kX11_clearMade e9) wm_yX11_clearMade ws_yX11_clearMade (Nat.le_of_ble_eq_true rfl) rfl (Nat.le_of_ble_eq_true rfl) dX11_relabel_33 rfl (fun h9 => ?_)
          refine z_iconst (nI 0) 37 zki_0 dX11_relabel_36 rfl ?_
          refine z_istore (lv2 := [(5, .int (nI 0)), (0, .ref (b0 + x0)), (1, .int x1), (2, .int x2), (3, .int x3), (4, .int x4)]) 39 dX11_relabel_37 rfl (Nat.le_of_ble_eq_true rfl) rfl ?_
          exact z_sub [1, 2, 3, 4, 5, 0] rfl (BX11_relabel_39 b0 x0 x1 x2 x3 x4 zfu (nI 0) h9)
        · exact z_sub [] rfl (BX11_relabel_29 b0 q7.2 )
-- X11_border
def bX11_border_78 (self11 : Int32 × ZH → Option (Int32 × ZH)) (self37 : Int32 × Int32 × ZH → Option (Int32 × ZH)) (x0 : Nat) (x1 : Int32) (x2 : Int32) (x3 : Int32) (x5 : Int32) (t0 : Int32) (h : ZH) : Option (Int32 × ZH) :=
  self37 (t0, (x5 + (nI 1)), h)
theorem BX11_border_78 (b0 : Nat) (self11 : Int32 × ZH → Option (Int32 × ZH)) (self37 : Int32 × Int32 × ZH → Option (Int32 × ZH)) (x0 : Nat) (x1 : Int32) (x2 : Int32) (x3 : Int32) (x5 : Int32) (t0 : Int32) (h : ZH) (hself11 : ∀ (y3 : Int32) (hh : ZH), Zr zi b0 YX11_border 2 11 [(0, .ref (b0 + x0)), (1, .int x1), (2, .int x2), (3, .int y3)] [] hh (self11 (y3, hh))) (hself37 : ∀ (y4 : Int32) (y5 : Int32) (hh : ZH), Zr zi b0 YX11_border 2 37 [(0, .ref (b0 + x0)), (1, .int x1), (2, .int x2), (3, .int x3), (4, .int y4), (5, .int y5)] [] hh (self37 (y4, y5, hh))) : Zr zi b0 YX11_border 2 78 [(0, .ref (b0 + x0)), (1, .int x1), (2, .int x2), (3, .int x3), (5, .int x5)] [.int t0] h (bX11_border_78 self11 self37 x0 x1 x2 x3 x5 t0 h) := by
  unfold bX11_border_78
  refine z_istore (lv2 := [(4, .int t0), (0, .ref (b0 + x0)), (1, .int x1), (2, .int x2), (3, .int x3), (5, .int x5)]) 80 dX11_border_78 rfl (Nat.le_of_ble_eq_true rfl) rfl ?_
  refine z_iinc (lv2 := [(5, .int (x5 + (nI 1))), (4, .int t0), (0, .ref (b0 + x0)), (1, .int x1), (2, .int x2), (3, .int x3)]) (nI 1) 83 5 dX11_border_80 rfl rfl zki_1 (Nat.le_of_ble_eq_true rfl) rfl ?_
  refine z_goto 37 dX11_border_83 (by decide) ?_
  exact z_sub [2, 3, 4, 5, 1, 0] rfl (hself37 t0 (x5 + (nI 1)) h)
def bX11_border_77 (self11 : Int32 × ZH → Option (Int32 × ZH)) (self37 : Int32 × Int32 × ZH → Option (Int32 × ZH)) (x0 : Nat) (x1 : Int32) (x2 : Int32) (x3 : Int32) (x5 : Int32) (h : ZH) : Option (Int32 × ZH) :=
  bX11_border_78 self11 self37 x0 x1 x2 x3 x5 (nI 0) h
theorem BX11_border_77 (b0 : Nat) (self11 : Int32 × ZH → Option (Int32 × ZH)) (self37 : Int32 × Int32 × ZH → Option (Int32 × ZH)) (x0 : Nat) (x1 : Int32) (x2 : Int32) (x3 : Int32) (x5 : Int32) (h : ZH) (hself11 : ∀ (y3 : Int32) (hh : ZH), Zr zi b0 YX11_border 2 11 [(0, .ref (b0 + x0)), (1, .int x1), (2, .int x2), (3, .int y3)] [] hh (self11 (y3, hh))) (hself37 : ∀ (y4 : Int32) (y5 : Int32) (hh : ZH), Zr zi b0 YX11_border 2 37 [(0, .ref (b0 + x0)), (1, .int x1), (2, .int x2), (3, .int x3), (4, .int y4), (5, .int y5)] [] hh (self37 (y4, y5, hh))) : Zr zi b0 YX11_border 2 77 [(0, .ref (b0 + x0)), (1, .int x1), (2, .int x2), (3, .int x3), (5, .int x5)] [] h (bX11_border_77 self11 self37 x0 x1 x2 x3 x5 h) := by
  unfold bX11_border_77
  refine z_iconst (nI 0) 78 zki_0 dX11_border_77 rfl ?_
  exact z_sub [0, 1, 2, 3, 4] rfl (BX11_border_78 b0 self11 self37 x0 x1 x2 x3 x5 (nI 0) h hself11 hself37)
def kX11_border_37 (self11 : Int32 × ZH → Option (Int32 × ZH)) (x0 : Nat) (x1 : Int32) (x2 : Int32) (x3 : Int32) (self37 : Int32 × Int32 × ZH → Option (Int32 × ZH)) (x4 : Int32) (x5 : Int32) (h : ZH) : Option (Int32 × ZH) :=
  if (x3 - (nI 1)) ≤ x5 then (if x4 = 0 then (self11 ((x3 + (-1 : Int32)), h)) else
  (some (x3, h))) else
  (if x4 = 0 then (bX11_border_77 self11 self37 x0 x1 x2 x3 x5 h) else
  ((gR h 11 x0 11).bind fun v4 =>
  (lI h 14 v4 x5).bind fun v5 =>
  (gR h 11 x0 11).bind fun v6 =>
  (lI h 14 v6 (((x1 - x3) + (nI 1)) + x5)).bind fun v7 =>
  if v5 = v7 then (bX11_border_78 self11 self37 x0 x1 x2 x3 x5 (nI 1) h) else
  (bX11_border_77 self11 self37 x0 x1 x2 x3 x5 h)))
def lX11_border_37 (self11 : Int32 × ZH → Option (Int32 × ZH)) (x0 : Nat) (x1 : Int32) (x2 : Int32) (x3 : Int32) : (Int32 × Int32 × ZH → Option (Int32 × ZH)) → Int32 × Int32 × ZH → Option (Int32 × ZH) := fun self s => kX11_border_37 self11 x0 x1 x2 x3 self s.1 s.2.1 s.2.2
theorem KX11_border_37 (b0 : Nat) (self11 : Int32 × ZH → Option (Int32 × ZH)) (x0 : Nat) (x1 : Int32) (x2 : Int32) (x3 : Int32) (hself11 : ∀ (y3 : Int32) (hh : ZH), Zr zi b0 YX11_border 2 11 [(0, .ref (b0 + x0)), (1, .int x1), (2, .int x2), (3, .int y3)] [] hh (self11 (y3, hh))) (self37 : Int32 × Int32 × ZH → Option (Int32 × ZH)) (hself37 : ∀ (y4 : Int32) (y5 : Int32) (hh : ZH), Zr zi b0 YX11_border 2 37 [(0, .ref (b0 + x0)), (1, .int x1), (2, .int x2), (3, .int x3), (4, .int y4), (5, .int y5)] [] hh (self37 (y4, y5, hh))) (x4 : Int32) (x5 : Int32) (h : ZH) : Zr zi b0 YX11_border 2 37 [(0, .ref (b0 + x0)), (1, .int x1), (2, .int x2), (3, .int x3), (4, .int x4), (5, .int x5)] [] h (kX11_border_37 self11 x0 x1 x2 x3 self37 x4 x5 h) := by
  unfold kX11_border_37
  refine z_iload 39 5 dX11_border_37 rfl rfl ?_
  refine z_iload_n 40 3 dX11_border_39 rfl rfl ?_
  refine z_iconst (nI 1) 41 zki_1 dX11_border_40 rfl ?_
  refine z_isub 42 dX11_border_41 rfl ?_
  refine z_icmp_ge 86 45 dX11_border_42 (by decide) rfl (fun c1 => ?_) (fun c1 => ?_)
  · refine z_iload 88 4 dX11_border_86 rfl rfl ?_
    refine z_if_eq 93 91 dX11_border_88 (by decide) rfl (fun c2 => ?_) (fun c2 => ?_)
    · refine z_iinc (lv2 := [(3, .int (x3 + (-1 : Int32))), (0, .ref (b0 + x0)), (1, .int x1), (2, .int x2), (4, .int x4), (5, .int x5)]) (-1 : Int32) 96 3 dX11_border_93 rfl rfl zki_m1 (Nat.le_of_ble_eq_true rfl) rfl ?_
      refine z_goto 11 dX11_border_96 (by decide) ?_
      exact z_sub [1, 2, 3, 0] rfl (hself11 (x3 + (-1 : Int32)) h)
    · refine z_iload_n 92 3 dX11_border_91 rfl rfl ?_
      exact z_ireturn dX11_border_92 rfl
  · refine z_iload 47 4 dX11_border_45 rfl rfl ?_
    refine z_if_eq 77 50 dX11_border_47 (by decide) rfl (fun c3 => ?_) (fun c3 => ?_)
    · exact z_sub [0, 1, 2, 3, 5] rfl (BX11_border_77 b0 self11 self37 x0 x1 x2 x3 x5 h hself11 hself37)
    · refine z_aload_n 51 0 dX11_border_50 rfl rfl ?_
      refine z_getR 54 zC11 (Nat.le_of_ble_eq_true rfl) rfl w_1028 dX11_border_51 rfl (fun v4 _ => ?_)
      refine z_iload 56 5 dX11_border_54 rfl rfl ?_
      refine z_iaload 57 dX11_border_56 rfl (fun v5 _ => ?_)
      refine z_aload_n 58 0 dX11_border_57 rfl rfl ?_
      refine z_getR 61 zC11 (Nat.le_of_ble_eq_true rfl) rfl w_1028 dX11_border_58 rfl (fun v6 _ => ?_)
      refine z_iload_n 62 1 dX11_border_61 rfl rfl ?_
      refine z_iload_n 63 3 dX11_border_62 rfl rfl ?_
      refine z_isub 64 dX11_border_63 rfl ?_
      refine z_iconst (nI 1) 65 zki_1 dX11_border_64 rfl ?_
      refine z_iadd 66 dX11_border_65 rfl ?_
      refine z_iload 68 5 dX11_border_66 rfl rfl ?_
      refine z_iadd 69 dX11_border_68 rfl ?_
      refine z_iaload 70 dX11_border_69 rfl (fun v7 _ => ?_)
      refine z_icmp_ne 77 73 dX11_border_70 (by decide) rfl (fun c8 => ?_) (fun c8 => ?_)
      · exact z_sub [0, 1, 2, 3, 5] rfl (BX11_border_77 b0 self11 self37 x0 x1 x2 x3 x5 h hself11 hself37)
      · refine z_iconst (nI 1) 74 zki_1 dX11_border_73 rfl ?_
        refine z_goto 78 dX11_border_74 (by decide) ?_
        exact z_sub [0, 1, 2, 3, 5] rfl (BX11_border_78 b0 self11 self37 x0 x1 x2 x3 x5 (nI 1) h hself11 hself37)
theorem BX11_border_37 (b0 : Nat) (self11 : Int32 × ZH → Option (Int32 × ZH)) (x0 : Nat) (x1 : Int32) (x2 : Int32) (x3 : Int32) (hself11 : ∀ (y3 : Int32) (hh : ZH), Zr zi b0 YX11_border 2 11 [(0, .ref (b0 + x0)), (1, .int x1), (2, .int x2), (3, .int y3)] [] hh (self11 (y3, hh))) (n : Nat) (x4 : Int32) (x5 : Int32) (h : ZH) : Zr zi b0 YX11_border 2 37 [(0, .ref (b0 + x0)), (1, .int x1), (2, .int x2), (3, .int x3), (4, .int x4), (5, .int x5)] [] h (zloop (lX11_border_37 self11 x0 x1 x2 x3) n (x4, x5, h)) :=
  zloop_Zr (fun s => [(0, .ref (b0 + x0)), (1, .int x1), (2, .int x2), (3, .int x3), (4, .int s.1), (5, .int s.2.1)]) (fun _ => []) (fun s => s.2.2) (lX11_border_37 self11 x0 x1 x2 x3) (fun self hs s => KX11_border_37 b0 self11 x0 x1 x2 x3 hself11 self (fun y4 y5 hh => hs (y4, y5, hh)) s.1 s.2.1 s.2.2) n (x4, x5, h)
def bX11_border_32 (self11 : Int32 × ZH → Option (Int32 × ZH)) (x0 : Nat) (x1 : Int32) (x2 : Int32) (x3 : Int32) (t0 : Int32) (h : ZH) : Option (Int32 × ZH) :=
  zloop (lX11_border_37 self11 x0 x1 x2 x3) zfu (t0, (nI 0), h)
theorem BX11_border_32 (b0 : Nat) (self11 : Int32 × ZH → Option (Int32 × ZH)) (x0 : Nat) (x1 : Int32) (x2 : Int32) (x3 : Int32) (t0 : Int32) (h : ZH) (hself11 : ∀ (y3 : Int32) (hh : ZH), Zr zi b0 YX11_border 2 11 [(0, .ref (b0 + x0)), (1, .int x1), (2, .int x2), (3, .int y3)] [] hh (self11 (y3, hh))) : Zr zi b0 YX11_border 2 32 [(0, .ref (b0 + x0)), (1, .int x1), (2, .int x2), (3, .int x3)] [.int t0] h (bX11_border_32 self11 x0 x1 x2 x3 t0 h) := by
  unfold bX11_border_32
  refine z_istore (lv2 := [(4, .int t0), (0, .ref (b0 + x0)), (1, .int x1), (2, .int x2), (3, .int x3)]) 34 dX11_border_32 rfl (Nat.le_of_ble_eq_true rfl) rfl ?_
  refine z_iconst (nI 0) 35 zki_0 dX11_border_34 rfl ?_
  refine z_istore (lv2 := [(5, .int (nI 0)), (4, .int t0), (0, .ref (b0 + x0)), (1, .int x1), (2, .int x2), (3, .int x3)]) 37 dX11_border_35 rfl (Nat.le_of_ble_eq_true rfl) rfl ?_
  exact z_sub [2, 3, 4, 5, 1, 0] rfl (BX11_border_37 b0 self11 x0 x1 x2 x3 hself11 zfu t0 (nI 0) h)
def kX11_border_11 (x0 : Nat) (x1 : Int32) (x2 : Int32) (self11 : Int32 × ZH → Option (Int32 × ZH)) (x3 : Int32) (h : ZH) : Option (Int32 × ZH) :=
  if x3 ≤ 0 then (some ((nI 0), h)) else
  ((gR h 11 x0 11).bind fun v2 =>
  (lI h 14 v2 (x3 - (nI 1))).bind fun v3 =>
  if v3 = x2 then (bX11_border_32 self11 x0 x1 x2 x3 (nI 1) h) else
  (bX11_border_32 self11 x0 x1 x2 x3 (nI 0) h))
def lX11_border_11 (x0 : Nat) (x1 : Int32) (x2 : Int32) : (Int32 × ZH → Option (Int32 × ZH)) → Int32 × ZH → Option (Int32 × ZH) := fun self s => kX11_border_11 x0 x1 x2 self s.1 s.2
theorem KX11_border_11 (b0 : Nat) (x0 : Nat) (x1 : Int32) (x2 : Int32) (self11 : Int32 × ZH → Option (Int32 × ZH)) (hself11 : ∀ (y3 : Int32) (hh : ZH), Zr zi b0 YX11_border 2 11 [(0, .ref (b0 + x0)), (1, .int x1), (2, .int x2), (3, .int y3)] [] hh (self11 (y3, hh))) (x3 : Int32) (h : ZH) : Zr zi b0 YX11_border 2 11 [(0, .ref (b0 + x0)), (1, .int x1), (2, .int x2), (3, .int x3)] [] h (kX11_border_11 x0 x1 x2 self11 x3 h) := by
  unfold kX11_border_11
  refine z_iload_n 12 3 dX11_border_11 rfl rfl ?_
  refine z_if_le 99 15 dX11_border_12 (by decide) rfl (fun c1 => ?_) (fun c1 => ?_)
  · refine z_iconst (nI 0) 100 zki_0 dX11_border_99 rfl ?_
    exact z_ireturn dX11_border_100 rfl
  · refine z_aload_n 16 0 dX11_border_15 rfl rfl ?_
    refine z_getR 19 zC11 (Nat.le_of_ble_eq_true rfl) rfl w_1028 dX11_border_16 rfl (fun v2 _ => ?_)
    refine z_iload_n 20 3 dX11_border_19 rfl rfl ?_
    refine z_iconst (nI 1) 21 zki_1 dX11_border_20 rfl ?_
    refine z_isub 22 dX11_border_21 rfl ?_
    refine z_iaload 23 dX11_border_22 rfl (fun v3 _ => ?_)
    refine z_iload_n 24 2 dX11_border_23 rfl rfl ?_
    refine z_icmp_ne 31 27 dX11_border_24 (by decide) rfl (fun c4 => ?_) (fun c4 => ?_)
    · refine z_iconst (nI 0) 32 zki_0 dX11_border_31 rfl ?_
      exact z_sub [0, 1, 2, 3] rfl (BX11_border_32 b0 self11 x0 x1 x2 x3 (nI 0) h hself11)
    · refine z_iconst (nI 1) 28 zki_1 dX11_border_27 rfl ?_
      refine z_goto 32 dX11_border_28 (by decide) ?_
      exact z_sub [0, 1, 2, 3] rfl (BX11_border_32 b0 self11 x0 x1 x2 x3 (nI 1) h hself11)
theorem BX11_border_11 (b0 : Nat) (x0 : Nat) (x1 : Int32) (x2 : Int32) (n : Nat) (x3 : Int32) (h : ZH) : Zr zi b0 YX11_border 2 11 [(0, .ref (b0 + x0)), (1, .int x1), (2, .int x2), (3, .int x3)] [] h (zloop (lX11_border_11 x0 x1 x2) n (x3, h)) :=
  zloop_Zr (fun s => [(0, .ref (b0 + x0)), (1, .int x1), (2, .int x2), (3, .int s.1)]) (fun _ => []) (fun s => s.2) (lX11_border_11 x0 x1 x2) (fun self hs s => KX11_border_11 b0 x0 x1 x2 self (fun y3 hh => hs (y3, hh)) s.1 s.2) n (x3, h)
def fX11_border (x0 : Nat) (x1 : Int32) (x2 : Int32) (h : ZH) : Option (Int32 × ZH) :=
  if x0 < zn h ∧ zK h x0 = 11 then ((gI h 11 x0 12).bind fun v1 =>
  zl (jmmin (x1 + (nI 1)) v1) fun v2 =>
  zloop (lX11_border_11 x0 x1 x2) zfu (v2, h)) else none
theorem kX11_border {x0 : Nat} {x1 : Int32} {x2 : Int32} {h : ZH} {x : Int32 × ZH} (e : fX11_border x0 x1 x2 h = some x) : x0 < zn h ∧ zK h x0 = 11 := by
  unfold fX11_border at e
  exact zguard e
theorem mX11_border (b0 : Nat) (x0 : Nat) (x1 : Int32) (x2 : Int32) (h : ZH) : ZM zi b0 YX11_border 2 [.ref (b0 + x0), .int x1, .int x2] h (fX11_border x0 x1 x2 h) := by
  unfold fX11_border
  refine ZM.of (by decide) rfl (Nat.le_of_ble_eq_true rfl) (fun _ => trivial) ?_
  refine z_sub (lv2 := [(0, .ref (b0 + x0)), (1, .int x1), (2, .int x2)]) [0, 1, 2] rfl ?_
  refine z_guard (fun _ => ?_)
  refine z_iload_n 1 1 dX11_border_0 rfl rfl ?_
  refine z_iconst (nI 1) 2 zki_1 dX11_border_1 rfl ?_
  refine z_iadd 3 dX11_border_2 rfl ?_
  refine z_aload_n 4 0 dX11_border_3 rfl rfl ?_
  refine z_getI 7 zC11 (Nat.le_of_ble_eq_true rfl) rfl w_1029 dX11_border_4 rfl (fun v1 _ => ?_)
  refine z_mmin 10 w_1477 wt_Lib_Math_min_name wi_RJ9 wc_Lib_Math_min_name (Nat.le_of_ble_eq_true rfl) (Nat.le_of_ble_eq_true rfl) dX11_border_7 rfl ?_
  refine z_letI (fun v2 _ => ?_)
  refine z_istore_n (lv2 := [(3, .int v2), (0, .ref (b0 + x0)), (1, .int x1), (2, .int x2)]) 11 dX11_border_10 rfl (Nat.le_of_ble_eq_true rfl) rfl ?_
  exact z_sub [1, 2, 3, 0] rfl (BX11_border_11 b0 x0 x1 x2 zfu v2 h)
-- X11_forbid
def bX11_forbid_175 (self55 : Int32 × ZH → Option (Int32 × ZH)) (self65 : Int32 × ZH → Option (Int32 × ZH)) (self77 : Int32 × ZH → Option (Int32 × ZH)) (self120 : Int32 × ZH → Option (Int32 × ZH)) (x0 : Nat) (x1 : Int32) (x2 : Int32) (x4 : Int32) (x5 : Int32) (x6 : Int32) (x7 : Int32) (x8 : Int32) (x9 : Int32) (t0 : Int64) (t1 : Int64) (t2 : Int32) (t3 : Nat) (h : ZH) : Option (Int32 × ZH) :=
  (sJ h t3 t2 (t1 ||| t0)).bind fun h1 =>
  self120 ((x9 + (nI 1)), h1)
theorem BX11_forbid_175 (b0 : Nat) (self55 : Int32 × ZH → Option (Int32 × ZH)) (self65 : Int32 × ZH → Option (Int32 × ZH)) (self77 : Int32 × ZH → Option (Int32 × ZH)) (self120 : Int32 × ZH → Option (Int32 × ZH)) (x0 : Nat) (x1 : Int32) (x2 : Int32) (x4 : Int32) (x5 : Int32) (x6 : Int32) (x7 : Int32) (x8 : Int32) (x9 : Int32) (t0 : Int64) (t1 : Int64) (t2 : Int32) (t3 : Nat) (h : ZH) (hself55 : ∀ (y4 : Int32) (hh : ZH), Zr zi b0 YX11_forbid 4 55 [(0, .ref (b0 + x0)), (1, .int x1), (2, .int x2), (4, .int y4)] [] hh (self55 (y4, hh))) (hself65 : ∀ (y5 : Int32) (hh : ZH), Zr zi b0 YX11_forbid 4 65 [(0, .ref (b0 + x0)), (1, .int x1), (2, .int x2), (4, .int x4), (5, .int y5)] [] hh (self65 (y5, hh))) (hself77 : ∀ (y6 : Int32) (hh : ZH), Zr zi b0 YX11_forbid 4 77 [(0, .ref (b0 + x0)), (1, .int x1), (2, .int x2), (4, .int x4), (5, .int x5), (6, .int y6)] [] hh (self77 (y6, hh))) (hself120 : ∀ (y9 : Int32) (hh : ZH), Zr zi b0 YX11_forbid 4 120 [(0, .ref (b0 + x0)), (1, .int x1), (2, .int x2), (4, .int x4), (5, .int x5), (6, .int x6), (7, .int x7), (8, .int x8), (9, .int y9)] [] hh (self120 (y9, hh))) : Zr zi b0 YX11_forbid 4 175 [(0, .ref (b0 + x0)), (1, .int x1), (2, .int x2), (4, .int x4), (5, .int x5), (6, .int x6), (7, .int x7), (8, .int x8), (9, .int x9)] [.long t0, .long t1, .int t2, .ref (b0 + t3)] h (bX11_forbid_175 self55 self65 self77 self120 x0 x1 x2 x4 x5 x6 x7 x8 x9 t0 t1 t2 t3 h) := by
  unfold bX11_forbid_175
  refine z_lor 176 dX11_forbid_175 rfl ?_
  refine z_lastore 177 dX11_forbid_176 rfl (fun h1 _ => ?_)
  refine z_iinc (lv2 := [(9, .int (x9 + (nI 1))), (0, .ref (b0 + x0)), (1, .int x1), (2, .int x2), (4, .int x4), (5, .int x5), (6, .int x6), (7, .int x7), (8, .int x8)]) (nI 1) 180 8 dX11_forbid_177 rfl rfl zki_1 (Nat.le_of_ble_eq_true rfl) rfl ?_
  refine z_goto 120 dX11_forbid_180 (by decide) ?_
  exact z_sub [1, 2, 3, 4, 5, 6, 7, 8, 0] rfl (hself120 (x9 + (nI 1)) h1)
def kX11_forbid_120 (self55 : Int32 × ZH → Option (Int32 × ZH)) (self65 : Int32 × ZH → Option (Int32 × ZH)) (self77 : Int32 × ZH → Option (Int32 × ZH)) (x0 : Nat) (x1 : Int32) (x2 : Int32) (x4 : Int32) (x5 : Int32) (x6 : Int32) (x7 : Int32) (x8 : Int32) (self120 : Int32 × ZH → Option (Int32 × ZH)) (x9 : Int32) (h : ZH) : Option (Int32 × ZH) :=
  if (nI 8) ≤ x9 then (self77 ((x6 + (nI 1)), h)) else
  ((gR h 11 x0 39).bind fun v2 =>
  (gI h 11 x0 12).bind fun v3 =>
  zl (((nI 4) * ((v3 * x4) + x5)) + x6) fun v4 =>
  (lJ h v2 v4).bind fun v5 =>
  if ((jshr x8 x9) &&& (nI 1)) = (nI 1) then ((gI h 11 x0 12).bind fun v7 =>
  bX11_forbid_175 self55 self65 self77 self120 x0 x1 x2 x4 x5 x6 x7 x8 x9 (jlshl (lN 1) ((v7 * x9) + x7)) v5 v4 v2 h) else
  (bX11_forbid_175 self55 self65 self77 self120 x0 x1 x2 x4 x5 x6 x7 x8 x9 (lN 0) v5 v4 v2 h))
def lX11_forbid_120 (self55 : Int32 × ZH → Option (Int32 × ZH)) (self65 : Int32 × ZH → Option (Int32 × ZH)) (self77 : Int32 × ZH → Option (Int32 × ZH)) (x0 : Nat) (x1 : Int32) (x2 : Int32) (x4 : Int32) (x5 : Int32) (x6 : Int32) (x7 : Int32) (x8 : Int32) : (Int32 × ZH → Option (Int32 × ZH)) → Int32 × ZH → Option (Int32 × ZH) := fun self s => kX11_forbid_120 self55 self65 self77 x0 x1 x2 x4 x5 x6 x7 x8 self s.1 s.2
theorem KX11_forbid_120 (b0 : Nat) (self55 : Int32 × ZH → Option (Int32 × ZH)) (self65 : Int32 × ZH → Option (Int32 × ZH)) (self77 : Int32 × ZH → Option (Int32 × ZH)) (x0 : Nat) (x1 : Int32) (x2 : Int32) (x4 : Int32) (x5 : Int32) (x6 : Int32) (x7 : Int32) (x8 : Int32) (hself55 : ∀ (y4 : Int32) (hh : ZH), Zr zi b0 YX11_forbid 4 55 [(0, .ref (b0 + x0)), (1, .int x1), (2, .int x2), (4, .int y4)] [] hh (self55 (y4, hh))) (hself65 : ∀ (y5 : Int32) (hh : ZH), Zr zi b0 YX11_forbid 4 65 [(0, .ref (b0 + x0)), (1, .int x1), (2, .int x2), (4, .int x4), (5, .int y5)] [] hh (self65 (y5, hh))) (hself77 : ∀ (y6 : Int32) (hh : ZH), Zr zi b0 YX11_forbid 4 77 [(0, .ref (b0 + x0)), (1, .int x1), (2, .int x2), (4, .int x4), (5, .int x5), (6, .int y6)] [] hh (self77 (y6, hh))) (self120 : Int32 × ZH → Option (Int32 × ZH)) (hself120 : ∀ (y9 : Int32) (hh : ZH), Zr zi b0 YX11_forbid 4 120 [(0, .ref (b0 + x0)), (1, .int x1), (2, .int x2), (4, .int x4), (5, .int x5), (6, .int x6), (7, .int x7), (8, .int x8), (9, .int y9)] [] hh (self120 (y9, hh))) (x9 : Int32) (h : ZH) : Zr zi b0 YX11_forbid 4 120 [(0, .ref (b0 + x0)), (1, .int x1), (2, .int x2), (4, .int x4), (5, .int x5), (6, .int x6), (7, .int x7), (8, .int x8), (9, .int x9)] [] h (kX11_forbid_120 self55 self65 self77 x0 x1 x2 x4 x5 x6 x7 x8 self120 x9 h) := by
  unfold kX11_forbid_120
  refine z_iload 122 8 dX11_forbid_120 rfl rfl ?_
  refine z_bipush (nI 8) 124 zkb_8 dX11_forbid_122 rfl ?_
  refine z_icmp_ge 183 127 dX11_forbid_124 (by decide) rfl (fun c1 => ?_) (fun c1 => ?_)
  · refine z_iinc (lv2 := [(6, .int (x6 + (nI 1))), (0, .ref (b0 + x0)), (1, .int x1), (2, .int x2), (4, .int x4), (5, .int x5), (7, .int x7), (8, .int x8), (9, .int x9)]) (nI 1) 186 5 dX11_forbid_183 rfl rfl zki_1 (Nat.le_of_ble_eq_true rfl) rfl ?_
    refine z_goto 77 dX11_forbid_186 (by decide) ?_
    exact z_sub [1, 2, 3, 4, 5, 0] rfl (hself77 (x6 + (nI 1)) h)
  · refine z_aload_n 128 0 dX11_forbid_127 rfl rfl ?_
    refine z_getR 131 zC11 (Nat.le_of_ble_eq_true rfl) rfl w_1056 dX11_forbid_128 rfl (fun v2 _ => ?_)
    refine z_iconst (nI 4) 132 zki_4 dX11_forbid_131 rfl ?_
    refine z_aload_n 133 0 dX11_forbid_132 rfl rfl ?_
    refine z_getI 136 zC11 (Nat.le_of_ble_eq_true rfl) rfl w_1029 dX11_forbid_133 rfl (fun v3 _ => ?_)
    refine z_iload 138 3 dX11_forbid_136 rfl rfl ?_
    refine z_imul 139 dX11_forbid_138 rfl ?_
    refine z_iload 141 4 dX11_forbid_139 rfl rfl ?_
    refine z_iadd 142 dX11_forbid_141 rfl ?_
    refine z_imul 143 dX11_forbid_142 rfl ?_
    refine z_iload 145 5 dX11_forbid_143 rfl rfl ?_
    refine z_iadd 146 dX11_forbid_145 rfl ?_
    refine z_letI (fun v4 _ => ?_)
    refine z_dup2 147 rfl rfl dX11_forbid_146 rfl ?_
    refine z_laload 148 dX11_forbid_147 rfl (fun v5 _ => ?_)
    refine z_iload 150 7 dX11_forbid_148 rfl rfl ?_
    refine z_iload 152 8 dX11_forbid_150 rfl rfl ?_
    refine z_ishr 153 dX11_forbid_152 rfl ?_
    refine z_iconst (nI 1) 154 zki_1 dX11_forbid_153 rfl ?_
    refine z_iand 155 dX11_forbid_154 rfl ?_
    refine z_iconst (nI 1) 156 zki_1 dX11_forbid_155 rfl ?_
    refine z_icmp_ne 174 159 dX11_forbid_156 (by decide) rfl (fun c6 => ?_) (fun c6 => ?_)
    · refine z_lconst (lN 0) 175 rfl dX11_forbid_174 rfl ?_
      exact z_sub [0, 1, 2, 3, 4, 5, 6, 7, 8] rfl (BX11_forbid_175 b0 self55 self65 self77 self120 x0 x1 x2 x4 x5 x6 x7 x8 x9 (lN 0) v5 v4 v2 h hself55 hself65 hself77 hself120)
    · refine z_lconst (lN 1) 160 rfl dX11_forbid_159 rfl ?_
      refine z_aload_n 161 0 dX11_forbid_160 rfl rfl ?_
      refine z_getI 164 zC11 (Nat.le_of_ble_eq_true rfl) rfl w_1029 dX11_forbid_161 rfl (fun v7 _ => ?_)
      refine z_iload 166 8 dX11_forbid_164 rfl rfl ?_
      refine z_imul 167 dX11_forbid_166 rfl ?_
      refine z_iload 169 6 dX11_forbid_167 rfl rfl ?_
      refine z_iadd 170 dX11_forbid_169 rfl ?_
      refine z_lshl 171 dX11_forbid_170 rfl ?_
      refine z_goto 175 dX11_forbid_171 (by decide) ?_
      exact z_sub [0, 1, 2, 3, 4, 5, 6, 7, 8] rfl (BX11_forbid_175 b0 self55 self65 self77 self120 x0 x1 x2 x4 x5 x6 x7 x8 x9 (jlshl (lN 1) ((v7 * x9) + x7)) v5 v4 v2 h hself55 hself65 hself77 hself120)
theorem BX11_forbid_120 (b0 : Nat) (self55 : Int32 × ZH → Option (Int32 × ZH)) (self65 : Int32 × ZH → Option (Int32 × ZH)) (self77 : Int32 × ZH → Option (Int32 × ZH)) (x0 : Nat) (x1 : Int32) (x2 : Int32) (x4 : Int32) (x5 : Int32) (x6 : Int32) (x7 : Int32) (x8 : Int32) (hself55 : ∀ (y4 : Int32) (hh : ZH), Zr zi b0 YX11_forbid 4 55 [(0, .ref (b0 + x0)), (1, .int x1), (2, .int x2), (4, .int y4)] [] hh (self55 (y4, hh))) (hself65 : ∀ (y5 : Int32) (hh : ZH), Zr zi b0 YX11_forbid 4 65 [(0, .ref (b0 + x0)), (1, .int x1), (2, .int x2), (4, .int x4), (5, .int y5)] [] hh (self65 (y5, hh))) (hself77 : ∀ (y6 : Int32) (hh : ZH), Zr zi b0 YX11_forbid 4 77 [(0, .ref (b0 + x0)), (1, .int x1), (2, .int x2), (4, .int x4), (5, .int x5), (6, .int y6)] [] hh (self77 (y6, hh))) (n : Nat) (x9 : Int32) (h : ZH) : Zr zi b0 YX11_forbid 4 120 [(0, .ref (b0 + x0)), (1, .int x1), (2, .int x2), (4, .int x4), (5, .int x5), (6, .int x6), (7, .int x7), (8, .int x8), (9, .int x9)] [] h (zloop (lX11_forbid_120 self55 self65 self77 x0 x1 x2 x4 x5 x6 x7 x8) n (x9, h)) :=
  zloop_Zr (fun s => [(0, .ref (b0 + x0)), (1, .int x1), (2, .int x2), (4, .int x4), (5, .int x5), (6, .int x6), (7, .int x7), (8, .int x8), (9, .int s.1)]) (fun _ => []) (fun s => s.2) (lX11_forbid_120 self55 self65 self77 x0 x1 x2 x4 x5 x6 x7 x8) (fun self hs s => KX11_forbid_120 b0 self55 self65 self77 x0 x1 x2 x4 x5 x6 x7 x8 hself55 hself65 hself77 self (fun y9 hh => hs (y9, hh)) s.1 s.2) n (x9, h)
def bX11_forbid_115 (self55 : Int32 × ZH → Option (Int32 × ZH)) (self65 : Int32 × ZH → Option (Int32 × ZH)) (self77 : Int32 × ZH → Option (Int32 × ZH)) (x0 : Nat) (x1 : Int32) (x2 : Int32) (x4 : Int32) (x5 : Int32) (x6 : Int32) (x7 : Int32) (t0 : Int32) (h : ZH) : Option (Int32 × ZH) :=
  zloop (lX11_forbid_120 self55 self65 self77 x0 x1 x2 x4 x5 x6 x7 t0) zfu ((nI 0), h)
theorem BX11_forbid_115 (b0 : Nat) (self55 : Int32 × ZH → Option (Int32 × ZH)) (self65 : Int32 × ZH → Option (Int32 × ZH)) (self77 : Int32 × ZH → Option (Int32 × ZH)) (x0 : Nat) (x1 : Int32) (x2 : Int32) (x4 : Int32) (x5 : Int32) (x6 : Int32) (x7 : Int32) (t0 : Int32) (h : ZH) (hself55 : ∀ (y4 : Int32) (hh : ZH), Zr zi b0 YX11_forbid 4 55 [(0, .ref (b0 + x0)), (1, .int x1), (2, .int x2), (4, .int y4)] [] hh (self55 (y4, hh))) (hself65 : ∀ (y5 : Int32) (hh : ZH), Zr zi b0 YX11_forbid 4 65 [(0, .ref (b0 + x0)), (1, .int x1), (2, .int x2), (4, .int x4), (5, .int y5)] [] hh (self65 (y5, hh))) (hself77 : ∀ (y6 : Int32) (hh : ZH), Zr zi b0 YX11_forbid 4 77 [(0, .ref (b0 + x0)), (1, .int x1), (2, .int x2), (4, .int x4), (5, .int x5), (6, .int y6)] [] hh (self77 (y6, hh))) : Zr zi b0 YX11_forbid 4 115 [(0, .ref (b0 + x0)), (1, .int x1), (2, .int x2), (4, .int x4), (5, .int x5), (6, .int x6), (7, .int x7)] [.int t0] h (bX11_forbid_115 self55 self65 self77 x0 x1 x2 x4 x5 x6 x7 t0 h) := by
  unfold bX11_forbid_115
  refine z_istore (lv2 := [(8, .int t0), (0, .ref (b0 + x0)), (1, .int x1), (2, .int x2), (4, .int x4), (5, .int x5), (6, .int x6), (7, .int x7)]) 117 dX11_forbid_115 rfl (Nat.le_of_ble_eq_true rfl) rfl ?_
  refine z_iconst (nI 0) 118 zki_0 dX11_forbid_117 rfl ?_
  refine z_istore (lv2 := [(9, .int (nI 0)), (8, .int t0), (0, .ref (b0 + x0)), (1, .int x1), (2, .int x2), (4, .int x4), (5, .int x5), (6, .int x6), (7, .int x7)]) 120 dX11_forbid_118 rfl (Nat.le_of_ble_eq_true rfl) rfl ?_
  exact z_sub [2, 3, 4, 5, 6, 7, 8, 1, 0] rfl (BX11_forbid_120 b0 self55 self65 self77 x0 x1 x2 x4 x5 x6 x7 t0 hself55 hself65 hself77 zfu (nI 0) h)
def kX11_forbid_77 (self55 : Int32 × ZH → Option (Int32 × ZH)) (self65 : Int32 × ZH → Option (Int32 × ZH)) (x0 : Nat) (x1 : Int32) (x2 : Int32) (x4 : Int32) (x5 : Int32) (self77 : Int32 × ZH → Option (Int32 × ZH)) (x6 : Int32) (h : ZH) : Option (Int32 × ZH) :=
  if (nI 4) ≤ x6 then (self65 ((x5 + (nI 1)), h)) else
  ((fX11_border x0 x5 x6 h).bind fun q2 =>
  (gI q2.2 11 x0 12).bind fun v3 =>
  if v3 ≤ q2.1 then (bX11_forbid_115 self55 self65 self77 x0 x1 x2 x4 x5 x6 q2.1 (nI 0) q2.2) else
  ((fX11_to x0 x1 x4 x6 q2.2).bind fun q5 =>
  bX11_forbid_115 self55 self65 self77 x0 x1 x2 x4 x5 x6 q2.1 q5.1 q5.2))
def lX11_forbid_77 (self55 : Int32 × ZH → Option (Int32 × ZH)) (self65 : Int32 × ZH → Option (Int32 × ZH)) (x0 : Nat) (x1 : Int32) (x2 : Int32) (x4 : Int32) (x5 : Int32) : (Int32 × ZH → Option (Int32 × ZH)) → Int32 × ZH → Option (Int32 × ZH) := fun self s => kX11_forbid_77 self55 self65 x0 x1 x2 x4 x5 self s.1 s.2
theorem KX11_forbid_77 (b0 : Nat) (self55 : Int32 × ZH → Option (Int32 × ZH)) (self65 : Int32 × ZH → Option (Int32 × ZH)) (x0 : Nat) (x1 : Int32) (x2 : Int32) (x4 : Int32) (x5 : Int32) (hself55 : ∀ (y4 : Int32) (hh : ZH), Zr zi b0 YX11_forbid 4 55 [(0, .ref (b0 + x0)), (1, .int x1), (2, .int x2), (4, .int y4)] [] hh (self55 (y4, hh))) (hself65 : ∀ (y5 : Int32) (hh : ZH), Zr zi b0 YX11_forbid 4 65 [(0, .ref (b0 + x0)), (1, .int x1), (2, .int x2), (4, .int x4), (5, .int y5)] [] hh (self65 (y5, hh))) (self77 : Int32 × ZH → Option (Int32 × ZH)) (hself77 : ∀ (y6 : Int32) (hh : ZH), Zr zi b0 YX11_forbid 4 77 [(0, .ref (b0 + x0)), (1, .int x1), (2, .int x2), (4, .int x4), (5, .int x5), (6, .int y6)] [] hh (self77 (y6, hh))) (x6 : Int32) (h : ZH) : Zr zi b0 YX11_forbid 4 77 [(0, .ref (b0 + x0)), (1, .int x1), (2, .int x2), (4, .int x4), (5, .int x5), (6, .int x6)] [] h (kX11_forbid_77 self55 self65 x0 x1 x2 x4 x5 self77 x6 h) := by
  unfold kX11_forbid_77
  refine z_iload 79 5 dX11_forbid_77 rfl rfl ?_
  refine z_iconst (nI 4) 80 zki_4 dX11_forbid_79 rfl ?_
  refine z_icmp_ge 189 83 dX11_forbid_80 (by decide) rfl (fun c1 => ?_) (fun c1 => ?_)
  · refine z_iinc (lv2 := [(5, .int (x5 + (nI 1))), (0, .ref (b0 + x0)), (1, .int x1), (2, .int x2), (4, .int x4), (6, .int x6)]) (nI 1) 192 4 dX11_forbid_189 rfl rfl zki_1 (Nat.le_of_ble_eq_true rfl) rfl ?_
    refine z_goto 65 dX11_forbid_192 (by decide) ?_
    exact z_sub [1, 2, 3, 4, 0] rfl (hself65 (x5 + (nI 1)) h)
  · refine z_aload_n 84 0 dX11_forbid_83 rfl rfl ?_
    refine z_iload 86 4 dX11_forbid_84 rfl rfl ?_
    refine z_iload 88 5 dX11_forbid_86 rfl rfl ?_
    refine z_callVi 91 (mX11_border b0 x0 x5 x6 h) zyX11_border rfl w_1473 (ci := 11) rfl (Nat.le_of_ble_eq_true rfl) (fun _ e9 => kX11_border e9) wm_yX11_border ws_yX11_border (Nat.le_of_ble_eq_true rfl) rfl (Nat.le_of_ble_eq_true rfl) dX11_forbid_88 rfl (fun q2 => ?_)
    refine z_istore (lv2 := [(7, .int q2.1), (0, .ref (b0 + x0)), (1, .int x1), (2, .int x2), (4, .int x4), (5, .int x5), (6, .int x6)]) 93 dX11_forbid_91 rfl (Nat.le_of_ble_eq_true rfl) rfl ?_
    refine z_iload 95 0 dX11_forbid_93 rfl rfl ?_
    refine z_aload_n 96 1 dX11_forbid_95 rfl rfl ?_
    refine z_getI 99 zC11 (Nat.le_of_ble_eq_true rfl) rfl w_1029 dX11_forbid_96 rfl (fun v3 _ => ?_)
    refine z_icmp_ge 114 102 dX11_forbid_99 (by decide) rfl (fun c4 => ?_) (fun c4 => ?_)
    · refine z_iconst (nI 0) 115 zki_0 dX11_forbid_114 rfl ?_
      exact z_sub [1, 2, 3, 4, 5, 6, 0] rfl (BX11_forbid_115 b0 self55 self65 self77 x0 x1 x2 x4 x5 x6 q2.1 (nI 0) q2.2 hself55 hself65 hself77)
    · refine z_aload_n 103 1 dX11_forbid_102 rfl rfl ?_
      refine z_iload_n 104 2 dX11_forbid_103 rfl rfl ?_
      refine z_iload 106 4 dX11_forbid_104 rfl rfl ?_
      refine z_iload 108 6 dX11_forbid_106 rfl rfl ?_
      refine z_callVi 111 (mX11_to b0 x0 x1 x4 x6 q2.2) zyX11_to rfl w_1183 (ci := 11) rfl (Nat.le_of_ble_eq_true rfl) (fun _ e9 => kX11_to e9) wm_yX11_to ws_yX11_to (Nat.le_of_ble_eq_true rfl) rfl (Nat.le_of_ble_eq_true rfl) dX11_forbid_108 rfl (fun q5 => ?_)
      refine z_goto 115 dX11_forbid_111 (by decide) ?_
      exact z_sub [1, 2, 3, 4, 5, 6, 0] rfl (BX11_forbid_115 b0 self55 self65 self77 x0 x1 x2 x4 x5 x6 q2.1 q5.1 q5.2 hself55 hself65 hself77)
theorem BX11_forbid_77 (b0 : Nat) (self55 : Int32 × ZH → Option (Int32 × ZH)) (self65 : Int32 × ZH → Option (Int32 × ZH)) (x0 : Nat) (x1 : Int32) (x2 : Int32) (x4 : Int32) (x5 : Int32) (hself55 : ∀ (y4 : Int32) (hh : ZH), Zr zi b0 YX11_forbid 4 55 [(0, .ref (b0 + x0)), (1, .int x1), (2, .int x2), (4, .int y4)] [] hh (self55 (y4, hh))) (hself65 : ∀ (y5 : Int32) (hh : ZH), Zr zi b0 YX11_forbid 4 65 [(0, .ref (b0 + x0)), (1, .int x1), (2, .int x2), (4, .int x4), (5, .int y5)] [] hh (self65 (y5, hh))) (n : Nat) (x6 : Int32) (h : ZH) : Zr zi b0 YX11_forbid 4 77 [(0, .ref (b0 + x0)), (1, .int x1), (2, .int x2), (4, .int x4), (5, .int x5), (6, .int x6)] [] h (zloop (lX11_forbid_77 self55 self65 x0 x1 x2 x4 x5) n (x6, h)) :=
  zloop_Zr (fun s => [(0, .ref (b0 + x0)), (1, .int x1), (2, .int x2), (4, .int x4), (5, .int x5), (6, .int s.1)]) (fun _ => []) (fun s => s.2) (lX11_forbid_77 self55 self65 x0 x1 x2 x4 x5) (fun self hs s => KX11_forbid_77 b0 self55 self65 x0 x1 x2 x4 x5 hself55 hself65 self (fun y6 hh => hs (y6, hh)) s.1 s.2) n (x6, h)
def kX11_forbid_65 (self55 : Int32 × ZH → Option (Int32 × ZH)) (x0 : Nat) (x1 : Int32) (x2 : Int32) (x4 : Int32) (self65 : Int32 × ZH → Option (Int32 × ZH)) (x5 : Int32) (h : ZH) : Option (Int32 × ZH) :=
  (gI h 11 x0 12).bind fun v1 =>
  if v1 ≤ x5 then (self55 ((x4 + (nI 1)), h)) else
  (zloop (lX11_forbid_77 self55 self65 x0 x1 x2 x4 x5) zfu ((nI 0), h))
def lX11_forbid_65 (self55 : Int32 × ZH → Option (Int32 × ZH)) (x0 : Nat) (x1 : Int32) (x2 : Int32) (x4 : Int32) : (Int32 × ZH → Option (Int32 × ZH)) → Int32 × ZH → Option (Int32 × ZH) := fun self s => kX11_forbid_65 self55 x0 x1 x2 x4 self s.1 s.2
theorem KX11_forbid_65 (b0 : Nat) (self55 : Int32 × ZH → Option (Int32 × ZH)) (x0 : Nat) (x1 : Int32) (x2 : Int32) (x4 : Int32) (hself55 : ∀ (y4 : Int32) (hh : ZH), Zr zi b0 YX11_forbid 4 55 [(0, .ref (b0 + x0)), (1, .int x1), (2, .int x2), (4, .int y4)] [] hh (self55 (y4, hh))) (self65 : Int32 × ZH → Option (Int32 × ZH)) (hself65 : ∀ (y5 : Int32) (hh : ZH), Zr zi b0 YX11_forbid 4 65 [(0, .ref (b0 + x0)), (1, .int x1), (2, .int x2), (4, .int x4), (5, .int y5)] [] hh (self65 (y5, hh))) (x5 : Int32) (h : ZH) : Zr zi b0 YX11_forbid 4 65 [(0, .ref (b0 + x0)), (1, .int x1), (2, .int x2), (4, .int x4), (5, .int x5)] [] h (kX11_forbid_65 self55 x0 x1 x2 x4 self65 x5 h) := by
  unfold kX11_forbid_65
  refine z_iload 67 4 dX11_forbid_65 rfl rfl ?_
  refine z_aload_n 68 0 dX11_forbid_67 rfl rfl ?_
  refine z_getI 71 zC11 (Nat.le_of_ble_eq_true rfl) rfl w_1029 dX11_forbid_68 rfl (fun v1 _ => ?_)
  refine z_icmp_ge 195 74 dX11_forbid_71 (by decide) rfl (fun c2 => ?_) (fun c2 => ?_)
  · refine z_iinc (lv2 := [(4, .int (x4 + (nI 1))), (0, .ref (b0 + x0)), (1, .int x1), (2, .int x2), (5, .int x5)]) (nI 1) 198 3 dX11_forbid_195 rfl rfl zki_1 (Nat.le_of_ble_eq_true rfl) rfl ?_
    refine z_goto 55 dX11_forbid_198 (by decide) ?_
    exact z_sub [1, 2, 3, 0] rfl (hself55 (x4 + (nI 1)) h)
  · refine z_iconst (nI 0) 75 zki_0 dX11_forbid_74 rfl ?_
    refine z_istore (lv2 := [(6, .int (nI 0)), (0, .ref (b0 + x0)), (1, .int x1), (2, .int x2), (4, .int x4), (5, .int x5)]) 77 dX11_forbid_75 rfl (Nat.le_of_ble_eq_true rfl) rfl ?_
    exact z_sub [1, 2, 3, 4, 5, 0] rfl (BX11_forbid_77 b0 self55 self65 x0 x1 x2 x4 x5 hself55 hself65 zfu (nI 0) h)
theorem BX11_forbid_65 (b0 : Nat) (self55 : Int32 × ZH → Option (Int32 × ZH)) (x0 : Nat) (x1 : Int32) (x2 : Int32) (x4 : Int32) (hself55 : ∀ (y4 : Int32) (hh : ZH), Zr zi b0 YX11_forbid 4 55 [(0, .ref (b0 + x0)), (1, .int x1), (2, .int x2), (4, .int y4)] [] hh (self55 (y4, hh))) (n : Nat) (x5 : Int32) (h : ZH) : Zr zi b0 YX11_forbid 4 65 [(0, .ref (b0 + x0)), (1, .int x1), (2, .int x2), (4, .int x4), (5, .int x5)] [] h (zloop (lX11_forbid_65 self55 x0 x1 x2 x4) n (x5, h)) :=
  zloop_Zr (fun s => [(0, .ref (b0 + x0)), (1, .int x1), (2, .int x2), (4, .int x4), (5, .int s.1)]) (fun _ => []) (fun s => s.2) (lX11_forbid_65 self55 x0 x1 x2 x4) (fun self hs s => KX11_forbid_65 b0 self55 x0 x1 x2 x4 hself55 self (fun y5 hh => hs (y5, hh)) s.1 s.2) n (x5, h)
def kX11_forbid_55 (x0 : Nat) (x1 : Int32) (x2 : Int32) (self55 : Int32 × ZH → Option (Int32 × ZH)) (x4 : Int32) (h : ZH) : Option (Int32 × ZH) :=
  if (nI 8) ≤ x4 then ((fX11_storeWide x0 x2 h).bind fun q2 =>
  some (q2.1, q2.2)) else
  (zloop (lX11_forbid_65 self55 x0 x1 x2 x4) zfu ((nI 0), h))
def lX11_forbid_55 (x0 : Nat) (x1 : Int32) (x2 : Int32) : (Int32 × ZH → Option (Int32 × ZH)) → Int32 × ZH → Option (Int32 × ZH) := fun self s => kX11_forbid_55 x0 x1 x2 self s.1 s.2
theorem KX11_forbid_55 (b0 : Nat) (x0 : Nat) (x1 : Int32) (x2 : Int32) (self55 : Int32 × ZH → Option (Int32 × ZH)) (hself55 : ∀ (y4 : Int32) (hh : ZH), Zr zi b0 YX11_forbid 4 55 [(0, .ref (b0 + x0)), (1, .int x1), (2, .int x2), (4, .int y4)] [] hh (self55 (y4, hh))) (x4 : Int32) (h : ZH) : Zr zi b0 YX11_forbid 4 55 [(0, .ref (b0 + x0)), (1, .int x1), (2, .int x2), (4, .int x4)] [] h (kX11_forbid_55 x0 x1 x2 self55 x4 h) := by
  unfold kX11_forbid_55
  refine z_iload 57 3 dX11_forbid_55 rfl rfl ?_
  refine z_bipush (nI 8) 59 zkb_8 dX11_forbid_57 rfl ?_
  refine z_icmp_ge 201 62 dX11_forbid_59 (by decide) rfl (fun c1 => ?_) (fun c1 => ?_)
  · refine z_aload_n 202 0 dX11_forbid_201 rfl rfl ?_
    refine z_iload_n 203 2 dX11_forbid_202 rfl rfl ?_
    refine z_callVi 206 (mX11_storeWide b0 x0 x2 h) zyX11_storeWide rfl w_1448 (ci := 11) rfl (Nat.le_of_ble_eq_true rfl) (fun _ e9 => kX11_storeWide e9) wm_yX11_storeWide ws_yX11_storeWide (Nat.le_of_ble_eq_true rfl) rfl (Nat.le_of_ble_eq_true rfl) dX11_forbid_203 rfl (fun q2 => ?_)
    exact z_ireturn dX11_forbid_206 rfl
  · refine z_iconst (nI 0) 63 zki_0 dX11_forbid_62 rfl ?_
    refine z_istore (lv2 := [(5, .int (nI 0)), (0, .ref (b0 + x0)), (1, .int x1), (2, .int x2), (4, .int x4)]) 65 dX11_forbid_63 rfl (Nat.le_of_ble_eq_true rfl) rfl ?_
    exact z_sub [1, 2, 3, 4, 0] rfl (BX11_forbid_65 b0 self55 x0 x1 x2 x4 hself55 zfu (nI 0) h)
theorem BX11_forbid_55 (b0 : Nat) (x0 : Nat) (x1 : Int32) (x2 : Int32) (n : Nat) (x4 : Int32) (h : ZH) : Zr zi b0 YX11_forbid 4 55 [(0, .ref (b0 + x0)), (1, .int x1), (2, .int x2), (4, .int x4)] [] h (zloop (lX11_forbid_55 x0 x1 x2) n (x4, h)) :=
  zloop_Zr (fun s => [(0, .ref (b0 + x0)), (1, .int x1), (2, .int x2), (4, .int s.1)]) (fun _ => []) (fun s => s.2) (lX11_forbid_55 x0 x1 x2) (fun self hs s => KX11_forbid_55 b0 x0 x1 x2 self (fun y4 hh => hs (y4, hh)) s.1 s.2) n (x4, h)
def bX11_forbid_14 (h : ZH) : Option (Int32 × ZH) :=
  some ((-2 : Int32), h)
theorem BX11_forbid_14 (b0 : Nat) (h : ZH) : Zr zi b0 YX11_forbid 4 14 [] [] h (bX11_forbid_14 h) := by
  unfold bX11_forbid_14
  refine z_bipush (-2 : Int32) 16 zkb_m2 dX11_forbid_14 rfl ?_
  exact z_ireturn dX11_forbid_16 rfl
def fX11_forbid (x0 : Nat) (x1 : Int32) (x2 : Int32) (h : ZH) : Option (Int32 × ZH) :=
  if x0 < zn h ∧ zK h x0 = 11 then ((fX11_isSlot x1 h).bind fun q1 =>
  if q1.1 = 0 then (bX11_forbid_14 q1.2) else
  ((fX11_isSlot x2 q1.2).bind fun q3 =>
  if q3.1 = 0 then (bX11_forbid_14 q3.2) else
  ((fX11_readWord x0 q3.2).bind fun q5 =>
  if q5.1 = (-1 : Int32) then ((gI q5.2 11 x0 12).bind fun v7 =>
  (fX11_isIn v7 (nI 1) (nI 6) q5.2).bind fun q8 =>
  if q8.1 = 0 then (some ((-2 : Int32), q8.2)) else
  ((fX11_clearWide x0 q8.2).bind fun h10 =>
  zloop (lX11_forbid_55 x0 x1 x2) zfu ((nI 0), h10))) else
  (some (((-100 : Int32) - q5.1), q5.2))))) else none
theorem kX11_forbid {x0 : Nat} {x1 : Int32} {x2 : Int32} {h : ZH} {x : Int32 × ZH} (e : fX11_forbid x0 x1 x2 h = some x) : x0 < zn h ∧ zK h x0 = 11 := by
  unfold fX11_forbid at e
  exact zguard e
theorem mX11_forbid (b0 : Nat) (x0 : Nat) (x1 : Int32) (x2 : Int32) (h : ZH) : ZM zi b0 YX11_forbid 4 [.ref (b0 + x0), .int x1, .int x2] h (fX11_forbid x0 x1 x2 h) := by
  unfold fX11_forbid
  refine ZM.of (by decide) rfl (Nat.le_of_ble_eq_true rfl) (fun _ => trivial) ?_
  refine z_sub (lv2 := [(0, .ref (b0 + x0)), (1, .int x1), (2, .int x2)]) [0, 1, 2] rfl ?_
  refine z_guard (fun _ => ?_)
  refine z_iload_n 1 1 dX11_forbid_0 rfl rfl ?_
  refine z_callSi 4 (mX11_isSlot b0 x1 h) zyX11_isSlot rfl w_1154 wt_yX11_isSlot (Nat.le_of_ble_eq_true rfl) rfl (Nat.le_of_ble_eq_true rfl) dX11_forbid_1 rfl (fun q1 => ?_)
  refine z_if_eq 14 7 dX11_forbid_4 (by decide) rfl (fun c2 => ?_) (fun c2 => ?_)
  · exact z_sub [] rfl (BX11_forbid_14 b0 q1.2 )
  · refine z_iload_n 8 2 dX11_forbid_7 rfl rfl ?_
    refine z_callSi 11 (mX11_isSlot b0 x2 q1.2) zyX11_isSlot rfl w_1154 wt_yX11_isSlot (Nat.le_of_ble_eq_true rfl) rfl (Nat.le_of_ble_eq_true rfl) dX11_forbid_8 rfl (fun q3 => ?_)
    refine z_if_ne 17 14 dX11_forbid_11 (by decide) rfl (fun c4 => ?_) (fun c4 => ?_)
    · refine z_aload_n 18 0 dX11_forbid_17 rfl rfl ?_
      refine z_callVi 21 (mX11_readWord b0 x0 q3.2) zyX11_readWord rfl w_1283 (ci := 11) rfl (Nat.le_of_ble_eq_true rfl) (fun _ e9 => kX11_readWord e9) wm_yX11_readWord ws_yX11_readWord (Nat.le_of_ble_eq_true rfl) rfl (Nat.le_of_ble_eq_true rfl) dX11_forbid_18 rfl (fun q5 => ?_)
      refine z_istore_n (lv2 := [(3, .int q5.1), (0, .ref (b0 + x0)), (1, .int x1), (2, .int x2)]) 22 dX11_forbid_21 rfl (Nat.le_of_ble_eq_true rfl) rfl ?_
      refine z_iload_n 23 0 dX11_forbid_22 rfl rfl ?_
      refine z_iconst (-1 : Int32) 24 zki_m1 dX11_forbid_23 rfl ?_
      refine z_icmp_eq 32 27 dX11_forbid_24 (by decide) rfl (fun c6 => ?_) (fun c6 => ?_)
      · refine z_aload_n 33 1 dX11_forbid_32 rfl rfl ?_
        refine z_getI 36 zC11 (Nat.le_of_ble_eq_true rfl) rfl w_1029 dX11_forbid_33 rfl (fun v7 _ => ?_)
        refine z_iconst (nI 1) 37 zki_1 dX11_forbid_36 rfl ?_
        refine z_bipush (nI 6) 39 zkb_6 dX11_forbid_37 rfl ?_
        refine z_callSi 42 (mX11_isIn b0 v7 (nI 1) (nI 6) q5.2) zyX11_isIn rfl w_1157 wt_yX11_isIn (Nat.le_of_ble_eq_true rfl) rfl (Nat.le_of_ble_eq_true rfl) dX11_forbid_39 rfl (fun q8 => ?_)
        refine z_if_ne 48 45 dX11_forbid_42 (by decide) rfl (fun c9 => ?_) (fun c9 => ?_)
        · refine z_aload_n 49 1 dX11_forbid_48 rfl rfl ?_
          refine z_callVv 52 (mX11_clearWide b0 x0 q8.2) zyX11_clearWide rfl w_1444 (ci := 11) rfl (Nat.le_of_ble_eq_true rfl) (fun _ e9 => kX11_clearWide e9) wm_yX11_clearWide ws_yX11_clearWide (Nat.le_of_ble_eq_true rfl) rfl (Nat.le_of_ble_eq_true rfl) dX11_forbid_49 rfl (fun h10 => ?_)
          refine z_iconst (nI 0) 53 zki_0 dX11_forbid_52 rfl ?_
          refine z_istore (lv2 := [(4, .int (nI 0)), (3, .int q5.1), (0, .ref (b0 + x0)), (1, .int x1), (2, .int x2)]) 55 dX11_forbid_53 rfl (Nat.le_of_ble_eq_true rfl) rfl ?_
          exact z_sub [2, 3, 4, 0] rfl (BX11_forbid_55 b0 x0 x1 x2 zfu (nI 0) h10)
        · refine z_bipush (-2 : Int32) 47 zkb_m2 dX11_forbid_45 rfl ?_
          exact z_ireturn dX11_forbid_47 rfl
      · refine z_bipush (-100 : Int32) 29 zkb_m100 dX11_forbid_27 rfl ?_
        refine z_iload_n 30 0 dX11_forbid_29 rfl rfl ?_
        refine z_isub 31 dX11_forbid_30 rfl ?_
        exact z_ireturn dX11_forbid_31 rfl
    · exact z_sub [] rfl (BX11_forbid_14 b0 q3.2 )
-- X11_undo
def kX11_undo_22 (x0 : Nat) (self22 : Int32 × ZH → Option (Int32 × ZH)) (x1 : Int32) (h : ZH) : Option (Int32 × ZH) :=
  if (nI 32) ≤ x1 then ((gR h 11 x0 3).bind fun v2 =>
  (gI h 11 x0 4).bind fun v3 =>
  (lI h 14 v2 v3).bind fun v4 =>
  some (v4, h)) else
  ((gR h 11 x0 0).bind fun v5 =>
  (gR h 11 x0 3).bind fun v6 =>
  (gI h 11 x0 4).bind fun v7 =>
  (lI h 14 v6 v7).bind fun v8 =>
  (gR h 11 x0 2).bind fun v9 =>
  (gI h 11 x0 4).bind fun v10 =>
  (lI h 14 v9 (((nI 32) * v10) + x1)).bind fun v11 =>
  (sI h 14 v5 (((nI 32) * v8) + x1) v11).bind fun h12 =>
  self22 ((x1 + (nI 1)), h12))
def lX11_undo_22 (x0 : Nat) : (Int32 × ZH → Option (Int32 × ZH)) → Int32 × ZH → Option (Int32 × ZH) := fun self s => kX11_undo_22 x0 self s.1 s.2
theorem KX11_undo_22 (b0 : Nat) (x0 : Nat) (self22 : Int32 × ZH → Option (Int32 × ZH)) (hself22 : ∀ (y1 : Int32) (hh : ZH), Zr zi b0 YX11_undo 1 22 [(0, .ref (b0 + x0)), (1, .int y1)] [] hh (self22 (y1, hh))) (x1 : Int32) (h : ZH) : Zr zi b0 YX11_undo 1 22 [(0, .ref (b0 + x0)), (1, .int x1)] [] h (kX11_undo_22 x0 self22 x1 h) := by
  unfold kX11_undo_22
  refine z_iload_n 23 1 dX11_undo_22 rfl rfl ?_
  refine z_bipush (nI 32) 25 zkb_32 dX11_undo_23 rfl ?_
  refine z_icmp_ge 67 28 dX11_undo_25 (by decide) rfl (fun c1 => ?_) (fun c1 => ?_)
  · refine z_aload_n 68 0 dX11_undo_67 rfl rfl ?_
    refine z_getR 71 zC11 (Nat.le_of_ble_eq_true rfl) rfl w_1020 dX11_undo_68 rfl (fun v2 _ => ?_)
    refine z_aload_n 72 0 dX11_undo_71 rfl rfl ?_
    refine z_getI 75 zC11 (Nat.le_of_ble_eq_true rfl) rfl w_1021 dX11_undo_72 rfl (fun v3 _ => ?_)
    refine z_iaload 76 dX11_undo_75 rfl (fun v4 _ => ?_)
    exact z_ireturn dX11_undo_76 rfl
  · refine z_aload_n 29 0 dX11_undo_28 rfl rfl ?_
    refine z_getR 32 zC11 (Nat.le_of_ble_eq_true rfl) rfl w_1017 dX11_undo_29 rfl (fun v5 _ => ?_)
    refine z_bipush (nI 32) 34 zkb_32 dX11_undo_32 rfl ?_
    refine z_aload_n 35 0 dX11_undo_34 rfl rfl ?_
    refine z_getR 38 zC11 (Nat.le_of_ble_eq_true rfl) rfl w_1020 dX11_undo_35 rfl (fun v6 _ => ?_)
    refine z_aload_n 39 0 dX11_undo_38 rfl rfl ?_
    refine z_getI 42 zC11 (Nat.le_of_ble_eq_true rfl) rfl w_1021 dX11_undo_39 rfl (fun v7 _ => ?_)
    refine z_iaload 43 dX11_undo_42 rfl (fun v8 _ => ?_)
    refine z_imul 44 dX11_undo_43 rfl ?_
    refine z_iload_n 45 1 dX11_undo_44 rfl rfl ?_
    refine z_iadd 46 dX11_undo_45 rfl ?_
    refine z_aload_n 47 0 dX11_undo_46 rfl rfl ?_
    refine z_getR 50 zC11 (Nat.le_of_ble_eq_true rfl) rfl w_1019 dX11_undo_47 rfl (fun v9 _ => ?_)
    refine z_bipush (nI 32) 52 zkb_32 dX11_undo_50 rfl ?_
    refine z_aload_n 53 0 dX11_undo_52 rfl rfl ?_
    refine z_getI 56 zC11 (Nat.le_of_ble_eq_true rfl) rfl w_1021 dX11_undo_53 rfl (fun v10 _ => ?_)
    refine z_imul 57 dX11_undo_56 rfl ?_
    refine z_iload_n 58 1 dX11_undo_57 rfl rfl ?_
    refine z_iadd 59 dX11_undo_58 rfl ?_
    refine z_iaload 60 dX11_undo_59 rfl (fun v11 _ => ?_)
    refine z_iastore 61 dX11_undo_60 rfl (fun h12 _ => ?_)
    refine z_iinc (lv2 := [(1, .int (x1 + (nI 1))), (0, .ref (b0 + x0))]) (nI 1) 64 1 dX11_undo_61 rfl rfl zki_1 (Nat.le_of_ble_eq_true rfl) rfl ?_
    refine z_goto 22 dX11_undo_64 (by decide) ?_
    exact z_sub [1, 0] rfl (hself22 (x1 + (nI 1)) h12)
theorem BX11_undo_22 (b0 : Nat) (x0 : Nat) (n : Nat) (x1 : Int32) (h : ZH) : Zr zi b0 YX11_undo 1 22 [(0, .ref (b0 + x0)), (1, .int x1)] [] h (zloop (lX11_undo_22 x0) n (x1, h)) :=
  zloop_Zr (fun s => [(0, .ref (b0 + x0)), (1, .int s.1)]) (fun _ => []) (fun s => s.2) (lX11_undo_22 x0) (fun self hs s => KX11_undo_22 b0 x0 self (fun y1 hh => hs (y1, hh)) s.1 s.2) n (x1, h)
def fX11_undo (x0 : Nat) (h : ZH) : Option (Int32 × ZH) :=
  if x0 < zn h ∧ zK h x0 = 11 then ((gI h 11 x0 4).bind fun v1 =>
  if v1 = 0 then (some ((-6 : Int32), h)) else
  ((gI h 11 x0 4).bind fun v3 =>
  (pI h 11 x0 4 (v3 - (nI 1))).bind fun h4 =>
  zloop (lX11_undo_22 x0) zfu ((nI 0), h4))) else none
theorem kX11_undo {x0 : Nat} {h : ZH} {x : Int32 × ZH} (e : fX11_undo x0 h = some x) : x0 < zn h ∧ zK h x0 = 11 := by
  unfold fX11_undo at e
  exact zguard e
theorem mX11_undo (b0 : Nat) (x0 : Nat) (h : ZH) : ZM zi b0 YX11_undo 1 [.ref (b0 + x0)] h (fX11_undo x0 h) := by
  unfold fX11_undo
  refine ZM.of (by decide) rfl (Nat.le_of_ble_eq_true rfl) (fun _ => trivial) ?_
  refine z_sub (lv2 := [(0, .ref (b0 + x0))]) [0] rfl ?_
  refine z_guard (fun _ => ?_)
  refine z_aload_n 1 0 dX11_undo_0 rfl rfl ?_
  refine z_getI 4 zC11 (Nat.le_of_ble_eq_true rfl) rfl w_1021 dX11_undo_1 rfl (fun v1 _ => ?_)
  refine z_if_ne 10 7 dX11_undo_4 (by decide) rfl (fun c2 => ?_) (fun c2 => ?_)
  · refine z_aload_n 11 0 dX11_undo_10 rfl rfl ?_
    refine z_dup 12 rfl dX11_undo_11 rfl ?_
    refine z_getI 15 zC11 (Nat.le_of_ble_eq_true rfl) rfl w_1021 dX11_undo_12 rfl (fun v3 _ => ?_)
    refine z_iconst (nI 1) 16 zki_1 dX11_undo_15 rfl ?_
    refine z_isub 17 dX11_undo_16 rfl ?_
    refine z_putI 20 zC11 (Nat.le_of_ble_eq_true rfl) rfl rfl rfl w_1021 dX11_undo_17 rfl (fun h4 _ => ?_)
    refine z_iconst (nI 0) 21 zki_0 dX11_undo_20 rfl ?_
    refine z_istore_n (lv2 := [(1, .int (nI 0)), (0, .ref (b0 + x0))]) 22 dX11_undo_21 rfl (Nat.le_of_ble_eq_true rfl) rfl ?_
    exact z_sub [1, 0] rfl (BX11_undo_22 b0 x0 zfu (nI 0) h4)
  · refine z_bipush (-6 : Int32) 9 zkb_m6 dX11_undo_7 rfl ?_
    exact z_ireturn dX11_undo_9 rfl
-- X11_save
def kX11_save_2 (x0 : Nat) (self2 : Int32 × ZH → Option (Int32 × ZH)) (x1 : Int32) (h : ZH) : Option (Int32 × ZH) :=
  if (nI 192) ≤ x1 then ((pZ h 11 x0 6 (nI 1)).bind fun h2 =>
  (fX11_total x0 h2).bind fun q3 =>
  some (q3.1, q3.2)) else
  ((gR h 11 x0 5).bind fun v4 =>
  (gR h 11 x0 0).bind fun v5 =>
  (lI h 14 v5 x1).bind fun v6 =>
  (sI h 14 v4 x1 v6).bind fun h7 =>
  self2 ((x1 + (nI 1)), h7))
def lX11_save_2 (x0 : Nat) : (Int32 × ZH → Option (Int32 × ZH)) → Int32 × ZH → Option (Int32 × ZH) := fun self s => kX11_save_2 x0 self s.1 s.2
theorem KX11_save_2 (b0 : Nat) (x0 : Nat) (self2 : Int32 × ZH → Option (Int32 × ZH)) (hself2 : ∀ (y1 : Int32) (hh : ZH), Zr zi b0 YX11_save 4 2 [(0, .ref (b0 + x0)), (1, .int y1)] [] hh (self2 (y1, hh))) (x1 : Int32) (h : ZH) : Zr zi b0 YX11_save 4 2 [(0, .ref (b0 + x0)), (1, .int x1)] [] h (kX11_save_2 x0 self2 x1 h) := by
  unfold kX11_save_2
  refine z_iload_n 3 1 dX11_save_2 rfl rfl ?_
  refine z_sipush (nI 192) 6 zks_192 dX11_save_3 rfl ?_
  refine z_icmp_ge 27 9 dX11_save_6 (by decide) rfl (fun c1 => ?_) (fun c1 => ?_)
  · refine z_aload_n 28 0 dX11_save_27 rfl rfl ?_
    refine z_iconst (nI 1) 29 zki_1 dX11_save_28 rfl ?_
    refine z_putZ 32 zC11 (Nat.le_of_ble_eq_true rfl) rfl rfl rfl w_1023 dX11_save_29 rfl (fun h2 _ => ?_)
    refine z_aload_n 33 0 dX11_save_32 rfl rfl ?_
    refine z_callVi 36 (mX11_total b0 x0 h2) zyX11_total rfl w_1486 (ci := 11) rfl (Nat.le_of_ble_eq_true rfl) (fun _ e9 => kX11_total e9) wm_yX11_total ws_yX11_total (Nat.le_of_ble_eq_true rfl) rfl (Nat.le_of_ble_eq_true rfl) dX11_save_33 rfl (fun q3 => ?_)
    exact z_ireturn dX11_save_36 rfl
  · refine z_aload_n 10 0 dX11_save_9 rfl rfl ?_
    refine z_getR 13 zC11 (Nat.le_of_ble_eq_true rfl) rfl w_1022 dX11_save_10 rfl (fun v4 _ => ?_)
    refine z_iload_n 14 1 dX11_save_13 rfl rfl ?_
    refine z_aload_n 15 0 dX11_save_14 rfl rfl ?_
    refine z_getR 18 zC11 (Nat.le_of_ble_eq_true rfl) rfl w_1017 dX11_save_15 rfl (fun v5 _ => ?_)
    refine z_iload_n 19 1 dX11_save_18 rfl rfl ?_
    refine z_iaload 20 dX11_save_19 rfl (fun v6 _ => ?_)
    refine z_iastore 21 dX11_save_20 rfl (fun h7 _ => ?_)
    refine z_iinc (lv2 := [(1, .int (x1 + (nI 1))), (0, .ref (b0 + x0))]) (nI 1) 24 1 dX11_save_21 rfl rfl zki_1 (Nat.le_of_ble_eq_true rfl) rfl ?_
    refine z_goto 2 dX11_save_24 (by decide) ?_
    exact z_sub [1, 0] rfl (hself2 (x1 + (nI 1)) h7)
theorem BX11_save_2 (b0 : Nat) (x0 : Nat) (n : Nat) (x1 : Int32) (h : ZH) : Zr zi b0 YX11_save 4 2 [(0, .ref (b0 + x0)), (1, .int x1)] [] h (zloop (lX11_save_2 x0) n (x1, h)) :=
  zloop_Zr (fun s => [(0, .ref (b0 + x0)), (1, .int s.1)]) (fun _ => []) (fun s => s.2) (lX11_save_2 x0) (fun self hs s => KX11_save_2 b0 x0 self (fun y1 hh => hs (y1, hh)) s.1 s.2) n (x1, h)
def fX11_save (x0 : Nat) (h : ZH) : Option (Int32 × ZH) :=
  if x0 < zn h ∧ zK h x0 = 11 then (zloop (lX11_save_2 x0) zfu ((nI 0), h)) else none
theorem kX11_save {x0 : Nat} {h : ZH} {x : Int32 × ZH} (e : fX11_save x0 h = some x) : x0 < zn h ∧ zK h x0 = 11 := by
  unfold fX11_save at e
  exact zguard e
theorem mX11_save (b0 : Nat) (x0 : Nat) (h : ZH) : ZM zi b0 YX11_save 4 [.ref (b0 + x0)] h (fX11_save x0 h) := by
  unfold fX11_save
  refine ZM.of (by decide) rfl (Nat.le_of_ble_eq_true rfl) (fun _ => trivial) ?_
  refine z_sub (lv2 := [(0, .ref (b0 + x0))]) [0] rfl ?_
  refine z_guard (fun _ => ?_)
  refine z_iconst (nI 0) 1 zki_0 dX11_save_0 rfl ?_
  refine z_istore_n (lv2 := [(1, .int (nI 0)), (0, .ref (b0 + x0))]) 2 dX11_save_1 rfl (Nat.le_of_ble_eq_true rfl) rfl ?_
  exact z_sub [1, 0] rfl (BX11_save_2 b0 x0 zfu (nI 0) h)
-- X11_restore
def kX11_restore_12 (x0 : Nat) (self12 : Int32 × ZH → Option (Int32 × ZH)) (x1 : Int32) (h : ZH) : Option (Int32 × ZH) :=
  if (nI 192) ≤ x1 then ((pI h 11 x0 4 (nI 0)).bind fun h2 =>
  (fX11_total x0 h2).bind fun q3 =>
  some (q3.1, q3.2)) else
  ((gR h 11 x0 0).bind fun v4 =>
  (gR h 11 x0 5).bind fun v5 =>
  (lI h 14 v5 x1).bind fun v6 =>
  (sI h 14 v4 x1 v6).bind fun h7 =>
  self12 ((x1 + (nI 1)), h7))
def lX11_restore_12 (x0 : Nat) : (Int32 × ZH → Option (Int32 × ZH)) → Int32 × ZH → Option (Int32 × ZH) := fun self s => kX11_restore_12 x0 self s.1 s.2
theorem KX11_restore_12 (b0 : Nat) (x0 : Nat) (self12 : Int32 × ZH → Option (Int32 × ZH)) (hself12 : ∀ (y1 : Int32) (hh : ZH), Zr zi b0 YX11_restore 4 12 [(0, .ref (b0 + x0)), (1, .int y1)] [] hh (self12 (y1, hh))) (x1 : Int32) (h : ZH) : Zr zi b0 YX11_restore 4 12 [(0, .ref (b0 + x0)), (1, .int x1)] [] h (kX11_restore_12 x0 self12 x1 h) := by
  unfold kX11_restore_12
  refine z_iload_n 13 1 dX11_restore_12 rfl rfl ?_
  refine z_sipush (nI 192) 16 zks_192 dX11_restore_13 rfl ?_
  refine z_icmp_ge 37 19 dX11_restore_16 (by decide) rfl (fun c1 => ?_) (fun c1 => ?_)
  · refine z_aload_n 38 0 dX11_restore_37 rfl rfl ?_
    refine z_iconst (nI 0) 39 zki_0 dX11_restore_38 rfl ?_
    refine z_putI 42 zC11 (Nat.le_of_ble_eq_true rfl) rfl rfl rfl w_1021 dX11_restore_39 rfl (fun h2 _ => ?_)
    refine z_aload_n 43 0 dX11_restore_42 rfl rfl ?_
    refine z_callVi 46 (mX11_total b0 x0 h2) zyX11_total rfl w_1486 (ci := 11) rfl (Nat.le_of_ble_eq_true rfl) (fun _ e9 => kX11_total e9) wm_yX11_total ws_yX11_total (Nat.le_of_ble_eq_true rfl) rfl (Nat.le_of_ble_eq_true rfl) dX11_restore_43 rfl (fun q3 => ?_)
    exact z_ireturn dX11_restore_46 rfl
  · refine z_aload_n 20 0 dX11_restore_19 rfl rfl ?_
    refine z_getR 23 zC11 (Nat.le_of_ble_eq_true rfl) rfl w_1017 dX11_restore_20 rfl (fun v4 _ => ?_)
    refine z_iload_n 24 1 dX11_restore_23 rfl rfl ?_
    refine z_aload_n 25 0 dX11_restore_24 rfl rfl ?_
    refine z_getR 28 zC11 (Nat.le_of_ble_eq_true rfl) rfl w_1022 dX11_restore_25 rfl (fun v5 _ => ?_)
    refine z_iload_n 29 1 dX11_restore_28 rfl rfl ?_
    refine z_iaload 30 dX11_restore_29 rfl (fun v6 _ => ?_)
    refine z_iastore 31 dX11_restore_30 rfl (fun h7 _ => ?_)
    refine z_iinc (lv2 := [(1, .int (x1 + (nI 1))), (0, .ref (b0 + x0))]) (nI 1) 34 1 dX11_restore_31 rfl rfl zki_1 (Nat.le_of_ble_eq_true rfl) rfl ?_
    refine z_goto 12 dX11_restore_34 (by decide) ?_
    exact z_sub [1, 0] rfl (hself12 (x1 + (nI 1)) h7)
theorem BX11_restore_12 (b0 : Nat) (x0 : Nat) (n : Nat) (x1 : Int32) (h : ZH) : Zr zi b0 YX11_restore 4 12 [(0, .ref (b0 + x0)), (1, .int x1)] [] h (zloop (lX11_restore_12 x0) n (x1, h)) :=
  zloop_Zr (fun s => [(0, .ref (b0 + x0)), (1, .int s.1)]) (fun _ => []) (fun s => s.2) (lX11_restore_12 x0) (fun self hs s => KX11_restore_12 b0 x0 self (fun y1 hh => hs (y1, hh)) s.1 s.2) n (x1, h)
def fX11_restore (x0 : Nat) (h : ZH) : Option (Int32 × ZH) :=
  if x0 < zn h ∧ zK h x0 = 11 then ((gI h 11 x0 6).bind fun v1 =>
  if v1 = 0 then (some ((-6 : Int32), h)) else
  (zloop (lX11_restore_12 x0) zfu ((nI 0), h))) else none
theorem kX11_restore {x0 : Nat} {h : ZH} {x : Int32 × ZH} (e : fX11_restore x0 h = some x) : x0 < zn h ∧ zK h x0 = 11 := by
  unfold fX11_restore at e
  exact zguard e
theorem mX11_restore (b0 : Nat) (x0 : Nat) (h : ZH) : ZM zi b0 YX11_restore 4 [.ref (b0 + x0)] h (fX11_restore x0 h) := by
  unfold fX11_restore
  refine ZM.of (by decide) rfl (Nat.le_of_ble_eq_true rfl) (fun _ => trivial) ?_
  refine z_sub (lv2 := [(0, .ref (b0 + x0))]) [0] rfl ?_
  refine z_guard (fun _ => ?_)
  refine z_aload_n 1 0 dX11_restore_0 rfl rfl ?_
  refine z_getI 4 zC11 (Nat.le_of_ble_eq_true rfl) rfl w_1023 dX11_restore_1 rfl (fun v1 _ => ?_)
  refine z_if_ne 10 7 dX11_restore_4 (by decide) rfl (fun c2 => ?_) (fun c2 => ?_)
  · refine z_iconst (nI 0) 11 zki_0 dX11_restore_10 rfl ?_
    refine z_istore_n (lv2 := [(1, .int (nI 0)), (0, .ref (b0 + x0))]) 12 dX11_restore_11 rfl (Nat.le_of_ble_eq_true rfl) rfl ?_
    exact z_sub [1, 0] rfl (BX11_restore_12 b0 x0 zfu (nI 0) h)
  · refine z_bipush (-6 : Int32) 9 zkb_m6 dX11_restore_7 rfl ?_
    exact z_ireturn dX11_restore_9 rfl
-- X11_isArray
def fX11_isArray (x0 : Int32) (h : ZH) : Option (Int32 × ZH) :=
  (fX11_isIn x0 (nI 0) (nI 3) h).bind fun q1 =>
  if q1.1 = 0 ∨ q1.1 = 1 then some (q1.1, q1.2) else none
theorem mX11_isArray (b0 : Nat) (x0 : Int32) (h : ZH) : ZM zi b0 YX11_isArray 2 [.int x0] h (fX11_isArray x0 h) := by
  unfold fX11_isArray
  refine ZM.of (by decide) rfl (Nat.le_of_ble_eq_true rfl) (fun _ => trivial) ?_
  refine z_sub (lv2 := [(0, .int x0)]) [0] rfl ?_
  refine z_iload_n 1 0 dX11_isArray_0 rfl rfl ?_
  refine z_iconst (nI 0) 2 zki_0 dX11_isArray_1 rfl ?_
  refine z_iconst (nI 3) 3 zki_3 dX11_isArray_2 rfl ?_
  refine z_callSi 6 (mX11_isIn b0 x0 (nI 0) (nI 3) h) zyX11_isIn rfl w_1157 wt_yX11_isIn (Nat.le_of_ble_eq_true rfl) rfl (Nat.le_of_ble_eq_true rfl) dX11_isArray_3 rfl (fun q1 => ?_)
  exact z_zreturn dX11_isArray_6 rfl
-- X11_isIndex
def fX11_isIndex (x0 : Nat) (x1 : Int32) (x2 : Int32) (h : ZH) : Option (Int32 × ZH) :=
  if x0 < zn h ∧ zK h x0 = 11 then ((gR h 11 x0 41).bind fun v1 =>
  (lI h 14 v1 x1).bind fun v2 =>
  (fX11_isIn x2 (nI 0) (v2 - (nI 1)) h).bind fun q3 =>
  if q3.1 = 0 ∨ q3.1 = 1 then some (q3.1, q3.2) else none) else none
theorem kX11_isIndex {x0 : Nat} {x1 : Int32} {x2 : Int32} {h : ZH} {x : Int32 × ZH} (e : fX11_isIndex x0 x1 x2 h = some x) : x0 < zn h ∧ zK h x0 = 11 := by
  unfold fX11_isIndex at e
  exact zguard e
theorem mX11_isIndex (b0 : Nat) (x0 : Nat) (x1 : Int32) (x2 : Int32) (h : ZH) : ZM zi b0 YX11_isIndex 2 [.ref (b0 + x0), .int x1, .int x2] h (fX11_isIndex x0 x1 x2 h) := by
  unfold fX11_isIndex
  refine ZM.of (by decide) rfl (Nat.le_of_ble_eq_true rfl) (fun _ => trivial) ?_
  refine z_sub (lv2 := [(0, .ref (b0 + x0)), (1, .int x1), (2, .int x2)]) [0, 1, 2] rfl ?_
  refine z_guard (fun _ => ?_)
  refine z_iload_n 1 2 dX11_isIndex_0 rfl rfl ?_
  refine z_iconst (nI 0) 2 zki_0 dX11_isIndex_1 rfl ?_
  refine z_aload_n 3 0 dX11_isIndex_2 rfl rfl ?_
  refine z_getR 6 zC11 (Nat.le_of_ble_eq_true rfl) rfl w_1058 dX11_isIndex_3 rfl (fun v1 _ => ?_)
  refine z_iload_n 7 1 dX11_isIndex_6 rfl rfl ?_
  refine z_iaload 8 dX11_isIndex_7 rfl (fun v2 _ => ?_)
  refine z_iconst (nI 1) 9 zki_1 dX11_isIndex_8 rfl ?_
  refine z_isub 10 dX11_isIndex_9 rfl ?_
  refine z_callSi 13 (mX11_isIn b0 x2 (nI 0) (v2 - (nI 1)) h) zyX11_isIn rfl w_1157 wt_yX11_isIn (Nat.le_of_ble_eq_true rfl) rfl (Nat.le_of_ble_eq_true rfl) dX11_isIndex_10 rfl (fun q3 => ?_)
  exact z_zreturn dX11_isIndex_13 rfl
-- X11_createArray
def kX11_createArray_49 (x0 : Nat) (x1 : Int32) (self49 : Int32 × ZH → Option (Int32 × ZH)) (x4 : Int32) (h : ZH) : Option (Int32 × ZH) :=
  if (nI 30) ≤ x4 then (some ((nI 1), h)) else
  ((gR h 11 x0 42).bind fun v2 =>
  (sI h 14 v2 (((nI 30) * x1) + x4) (nI 0)).bind fun h3 =>
  (gR h3 11 x0 43).bind fun v4 =>
  (sF h3 v4 (((nI 30) * x1) + x4) FP.fconst0).bind fun h5 =>
  self49 ((x4 + (nI 1)), h5))
def lX11_createArray_49 (x0 : Nat) (x1 : Int32) : (Int32 × ZH → Option (Int32 × ZH)) → Int32 × ZH → Option (Int32 × ZH) := fun self s => kX11_createArray_49 x0 x1 self s.1 s.2
theorem KX11_createArray_49 (b0 : Nat) (x0 : Nat) (x1 : Int32) (self49 : Int32 × ZH → Option (Int32 × ZH)) (hself49 : ∀ (y4 : Int32) (hh : ZH), Zr zi b0 YX11_createArray 3 49 [(0, .ref (b0 + x0)), (1, .int x1), (4, .int y4)] [] hh (self49 (y4, hh))) (x4 : Int32) (h : ZH) : Zr zi b0 YX11_createArray 3 49 [(0, .ref (b0 + x0)), (1, .int x1), (4, .int x4)] [] h (kX11_createArray_49 x0 x1 self49 x4 h) := by
  unfold kX11_createArray_49
  refine z_iload 51 2 dX11_createArray_49 rfl rfl ?_
  refine z_bipush (nI 30) 53 zkb_30 dX11_createArray_51 rfl ?_
  refine z_icmp_ge 88 56 dX11_createArray_53 (by decide) rfl (fun c1 => ?_) (fun c1 => ?_)
  · refine z_iconst (nI 1) 89 zki_1 dX11_createArray_88 rfl ?_
    exact z_ireturn dX11_createArray_89 rfl
  · refine z_aload_n 57 0 dX11_createArray_56 rfl rfl ?_
    refine z_getR 60 zC11 (Nat.le_of_ble_eq_true rfl) rfl w_1059 dX11_createArray_57 rfl (fun v2 _ => ?_)
    refine z_bipush (nI 30) 62 zkb_30 dX11_createArray_60 rfl ?_
    refine z_iload_n 63 1 dX11_createArray_62 rfl rfl ?_
    refine z_imul 64 dX11_createArray_63 rfl ?_
    refine z_iload 66 2 dX11_createArray_64 rfl rfl ?_
    refine z_iadd 67 dX11_createArray_66 rfl ?_
    refine z_iconst (nI 0) 68 zki_0 dX11_createArray_67 rfl ?_
    refine z_iastore 69 dX11_createArray_68 rfl (fun h3 _ => ?_)
    refine z_aload_n 70 0 dX11_createArray_69 rfl rfl ?_
    refine z_getR 73 zC11 (Nat.le_of_ble_eq_true rfl) rfl w_1060 dX11_createArray_70 rfl (fun v4 _ => ?_)
    refine z_bipush (nI 30) 75 zkb_30 dX11_createArray_73 rfl ?_
    refine z_iload_n 76 1 dX11_createArray_75 rfl rfl ?_
    refine z_imul 77 dX11_createArray_76 rfl ?_
    refine z_iload 79 2 dX11_createArray_77 rfl rfl ?_
    refine z_iadd 80 dX11_createArray_79 rfl ?_
    refine z_fconst0 81 dX11_createArray_80 rfl ?_
    refine z_fastore 82 dX11_createArray_81 rfl (fun h5 _ => ?_)
    refine z_iinc (lv2 := [(4, .int (x4 + (nI 1))), (0, .ref (b0 + x0)), (1, .int x1)]) (nI 1) 85 2 dX11_createArray_82 rfl rfl zki_1 (Nat.le_of_ble_eq_true rfl) rfl ?_
    refine z_goto 49 dX11_createArray_85 (by decide) ?_
    exact z_sub [1, 2, 0] rfl (hself49 (x4 + (nI 1)) h5)
theorem BX11_createArray_49 (b0 : Nat) (x0 : Nat) (x1 : Int32) (n : Nat) (x4 : Int32) (h : ZH) : Zr zi b0 YX11_createArray 3 49 [(0, .ref (b0 + x0)), (1, .int x1), (4, .int x4)] [] h (zloop (lX11_createArray_49 x0 x1) n (x4, h)) :=
  zloop_Zr (fun s => [(0, .ref (b0 + x0)), (1, .int x1), (4, .int s.1)]) (fun _ => []) (fun s => s.2) (lX11_createArray_49 x0 x1) (fun self hs s => KX11_createArray_49 b0 x0 x1 self (fun y4 hh => hs (y4, hh)) s.1 s.2) n (x4, h)
def bX11_createArray_22 (h : ZH) : Option (Int32 × ZH) :=
  some ((-2 : Int32), h)
theorem BX11_createArray_22 (b0 : Nat) (h : ZH) : Zr zi b0 YX11_createArray 3 22 [] [] h (bX11_createArray_22 h) := by
  unfold bX11_createArray_22
  refine z_bipush (-2 : Int32) 24 zkb_m2 dX11_createArray_22 rfl ?_
  exact z_ireturn dX11_createArray_24 rfl
def fX11_createArray (x0 : Nat) (x1 : Int32) (x2 : Int32) (x3 : Int32) (h : ZH) : Option (Int32 × ZH) :=
  if x0 < zn h ∧ zK h x0 = 11 then ((fX11_isArray x1 h).bind fun q1 =>
  if q1.1 = 0 then (bX11_createArray_22 q1.2) else
  ((fX11_isIn x2 (nI 0) (nI 2) q1.2).bind fun q3 =>
  if q3.1 = 0 then (bX11_createArray_22 q3.2) else
  (if x3 ≤ (nI 30) then (if 0 ≤ x3 then ((gR q3.2 11 x0 40).bind fun v7 =>
  (sI q3.2 14 v7 x1 x2).bind fun h8 =>
  (gR h8 11 x0 41).bind fun v9 =>
  (sI h8 14 v9 x1 x3).bind fun h10 =>
  zloop (lX11_createArray_49 x0 x1) zfu ((nI 0), h10)) else
  (some ((-14 : Int32), q3.2))) else
  (bX11_createArray_22 q3.2)))) else none
theorem kX11_createArray {x0 : Nat} {x1 : Int32} {x2 : Int32} {x3 : Int32} {h : ZH} {x : Int32 × ZH} (e : fX11_createArray x0 x1 x2 x3 h = some x) : x0 < zn h ∧ zK h x0 = 11 := by
  unfold fX11_createArray at e
  exact zguard e
theorem mX11_createArray (b0 : Nat) (x0 : Nat) (x1 : Int32) (x2 : Int32) (x3 : Int32) (h : ZH) : ZM zi b0 YX11_createArray 3 [.ref (b0 + x0), .int x1, .int x2, .int x3] h (fX11_createArray x0 x1 x2 x3 h) := by
  unfold fX11_createArray
  refine ZM.of (by decide) rfl (Nat.le_of_ble_eq_true rfl) (fun _ => trivial) ?_
  refine z_sub (lv2 := [(0, .ref (b0 + x0)), (1, .int x1), (2, .int x2), (3, .int x3)]) [0, 1, 2, 3] rfl ?_
  refine z_guard (fun _ => ?_)
  refine z_iload_n 1 1 dX11_createArray_0 rfl rfl ?_
  refine z_callSi 4 (mX11_isArray b0 x1 h) zyX11_isArray rfl w_1498 wt_yX11_isArray (Nat.le_of_ble_eq_true rfl) rfl (Nat.le_of_ble_eq_true rfl) dX11_createArray_1 rfl (fun q1 => ?_)
  refine z_if_eq 22 7 dX11_createArray_4 (by decide) rfl (fun c2 => ?_) (fun c2 => ?_)
  · exact z_sub [] rfl (BX11_createArray_22 b0 q1.2 )
  · refine z_iload_n 8 2 dX11_createArray_7 rfl rfl ?_
    refine z_iconst (nI 0) 9 zki_0 dX11_createArray_8 rfl ?_
    refine z_iconst (nI 2) 10 zki_2 dX11_createArray_9 rfl ?_
    refine z_callSi 13 (mX11_isIn b0 x2 (nI 0) (nI 2) q1.2) zyX11_isIn rfl w_1157 wt_yX11_isIn (Nat.le_of_ble_eq_true rfl) rfl (Nat.le_of_ble_eq_true rfl) dX11_createArray_10 rfl (fun q3 => ?_)
    refine z_if_eq 22 16 dX11_createArray_13 (by decide) rfl (fun c4 => ?_) (fun c4 => ?_)
    · exact z_sub [] rfl (BX11_createArray_22 b0 q3.2 )
    · refine z_iload_n 17 3 dX11_createArray_16 rfl rfl ?_
      refine z_bipush (nI 30) 19 zkb_30 dX11_createArray_17 rfl ?_
      refine z_icmp_le 25 22 dX11_createArray_19 (by decide) rfl (fun c5 => ?_) (fun c5 => ?_)
      · refine z_iload_n 26 3 dX11_createArray_25 rfl rfl ?_
        refine z_if_ge 32 29 dX11_createArray_26 (by decide) rfl (fun c6 => ?_) (fun c6 => ?_)
        · refine z_aload_n 33 0 dX11_createArray_32 rfl rfl ?_
          refine z_getR 36 zC11 (Nat.le_of_ble_eq_true rfl) rfl w_1057 dX11_createArray_33 rfl (fun v7 _ => ?_)
          refine z_iload_n 37 1 dX11_createArray_36 rfl rfl ?_
          refine z_iload_n 38 2 dX11_createArray_37 rfl rfl ?_
          refine z_iastore 39 dX11_createArray_38 rfl (fun h8 _ => ?_)
          refine z_aload_n 40 0 dX11_createArray_39 rfl rfl ?_
          refine z_getR 43 zC11 (Nat.le_of_ble_eq_true rfl) rfl w_1058 dX11_createArray_40 rfl (fun v9 _ => ?_)
          refine z_iload_n 44 1 dX11_createArray_43 rfl rfl ?_
          refine z_iload_n 45 3 dX11_createArray_44 rfl rfl ?_
          refine z_iastore 46 dX11_createArray_45 rfl (fun h10 _ => ?_)
          refine z_iconst (nI 0) 47 zki_0 dX11_createArray_46 rfl ?_
          refine z_istore (lv2 := [(4, .int (nI 0)), (0, .ref (b0 + x0)), (1, .int x1), (2, .int x2), (3, .int x3)]) 49 dX11_createArray_47 rfl (Nat.le_of_ble_eq_true rfl) rfl ?_
          exact z_sub [1, 2, 0] rfl (BX11_createArray_49 b0 x0 x1 zfu (nI 0) h10)
        · refine z_bipush (-14 : Int32) 31 zkb_m14 dX11_createArray_29 rfl ?_
          exact z_ireturn dX11_createArray_31 rfl
      · exact z_sub [] rfl (BX11_createArray_22 b0 q3.2 )
-- X11_setElement
def bX11_setElement_74 (x0 : Nat) (x1 : Int32) (x2 : Int32) (x3 : Int32) (t0 : Int32) (t1 : Int32) (t2 : Nat) (h : ZH) : Option (Int32 × ZH) :=
  (sI h 14 t2 t1 t0).bind fun h1 =>
  (gR h1 11 x0 43).bind fun v2 =>
  if FP.fdiv (FP.i2f x3) (1090519040 : UInt32) &&& 0x7fffffff ≤ 0x7f800000 then ((sF h1 v2 (((nI 30) * x1) + x2) (FP.fdiv (FP.i2f x3) (1090519040 : UInt32))).bind fun h3 =>
  some ((nI 1), h3)) else none
theorem BX11_setElement_74 (b0 : Nat) (x0 : Nat) (x1 : Int32) (x2 : Int32) (x3 : Int32) (t0 : Int32) (t1 : Int32) (t2 : Nat) (h : ZH) : Zr zi b0 YX11_setElement 3 74 [(0, .ref (b0 + x0)), (1, .int x1), (2, .int x2), (3, .int x3)] [.int t0, .int t1, .ref (b0 + t2)] h (bX11_setElement_74 x0 x1 x2 x3 t0 t1 t2 h) := by
  unfold bX11_setElement_74
  refine z_iastore 75 dX11_setElement_74 rfl (fun h1 _ => ?_)
  refine z_aload_n 76 0 dX11_setElement_75 rfl rfl ?_
  refine z_getR 79 zC11 (Nat.le_of_ble_eq_true rfl) rfl w_1060 dX11_setElement_76 rfl (fun v2 _ => ?_)
  refine z_bipush (nI 30) 81 zkb_30 dX11_setElement_79 rfl ?_
  refine z_iload_n 82 1 dX11_setElement_81 rfl rfl ?_
  refine z_imul 83 dX11_setElement_82 rfl ?_
  refine z_iload_n 84 2 dX11_setElement_83 rfl rfl ?_
  refine z_iadd 85 dX11_setElement_84 rfl ?_
  refine z_iload_n 86 3 dX11_setElement_85 rfl rfl ?_
  refine z_i2f 87 dX11_setElement_86 rfl ?_
  refine z_ldcwf 90 w_1509 dX11_setElement_87 rfl ?_
  refine z_fdiv 91 dX11_setElement_90 rfl ?_
  refine z_fastore 92 dX11_setElement_91 rfl (fun h3 _ => ?_)
  refine z_iconst (nI 1) 93 zki_1 dX11_setElement_92 rfl ?_
  exact z_ireturn dX11_setElement_93 rfl
def bX11_setElement_20 (h : ZH) : Option (Int32 × ZH) :=
  some ((-2 : Int32), h)
theorem BX11_setElement_20 (b0 : Nat) (h : ZH) : Zr zi b0 YX11_setElement 3 20 [] [] h (bX11_setElement_20 h) := by
  unfold bX11_setElement_20
  refine z_bipush (-2 : Int32) 22 zkb_m2 dX11_setElement_20 rfl ?_
  exact z_ireturn dX11_setElement_22 rfl
def fX11_setElement (x0 : Nat) (x1 : Int32) (x2 : Int32) (x3 : Int32) (h : ZH) : Option (Int32 × ZH) :=
  if x0 < zn h ∧ zK h x0 = 11 then ((fX11_isArray x1 h).bind fun q1 =>
  if q1.1 = 0 then (bX11_setElement_20 q1.2) else
  ((fX11_isIn x3 (-9999 : Int32) (nI 9999) q1.2).bind fun q3 =>
  if q3.1 = 0 then (bX11_setElement_20 q3.2) else
  ((gR q3.2 11 x0 40).bind fun v5 =>
  (lI q3.2 14 v5 x1).bind fun v6 =>
  if v6 = (-1 : Int32) then (some ((-11 : Int32), q3.2)) else
  ((fX11_isIndex x0 x1 x2 q3.2).bind fun q8 =>
  if q8.1 = 0 then (some ((-13 : Int32), q8.2)) else
  ((gR q8.2 11 x0 42).bind fun v10 =>
  (gR q8.2 11 x0 40).bind fun v11 =>
  (lI q8.2 14 v11 x1).bind fun v12 =>
  if v12 = 0 then (bX11_setElement_74 x0 x1 x2 x3 (ji2b x3) (((nI 30) * x1) + x2) v10 q8.2) else
  (bX11_setElement_74 x0 x1 x2 x3 (ji2c x3) (((nI 30) * x1) + x2) v10 q8.2)))))) else none
theorem kX11_setElement {x0 : Nat} {x1 : Int32} {x2 : Int32} {x3 : Int32} {h : ZH} {x : Int32 × ZH} (e : fX11_setElement x0 x1 x2 x3 h = some x) : x0 < zn h ∧ zK h x0 = 11 := by
  unfold fX11_setElement at e
  exact zguard e
theorem mX11_setElement (b0 : Nat) (x0 : Nat) (x1 : Int32) (x2 : Int32) (x3 : Int32) (h : ZH) : ZM zi b0 YX11_setElement 3 [.ref (b0 + x0), .int x1, .int x2, .int x3] h (fX11_setElement x0 x1 x2 x3 h) := by
  unfold fX11_setElement
  refine ZM.of (by decide) rfl (Nat.le_of_ble_eq_true rfl) (fun _ => trivial) ?_
  refine z_sub (lv2 := [(0, .ref (b0 + x0)), (1, .int x1), (2, .int x2), (3, .int x3)]) [0, 1, 2, 3] rfl ?_
  refine z_guard (fun _ => ?_)
  refine z_iload_n 1 1 dX11_setElement_0 rfl rfl ?_
  refine z_callSi 4 (mX11_isArray b0 x1 h) zyX11_isArray rfl w_1498 wt_yX11_isArray (Nat.le_of_ble_eq_true rfl) rfl (Nat.le_of_ble_eq_true rfl) dX11_setElement_1 rfl (fun q1 => ?_)
  refine z_if_eq 20 7 dX11_setElement_4 (by decide) rfl (fun c2 => ?_) (fun c2 => ?_)
  · exact z_sub [] rfl (BX11_setElement_20 b0 q1.2 )
  · refine z_iload_n 8 3 dX11_setElement_7 rfl rfl ?_
    refine z_sipush (-9999 : Int32) 11 zks_m9999 dX11_setElement_8 rfl ?_
    refine z_sipush (nI 9999) 14 zks_9999 dX11_setElement_11 rfl ?_
    refine z_callSi 17 (mX11_isIn b0 x3 (-9999 : Int32) (nI 9999) q1.2) zyX11_isIn rfl w_1157 wt_yX11_isIn (Nat.le_of_ble_eq_true rfl) rfl (Nat.le_of_ble_eq_true rfl) dX11_setElement_14 rfl (fun q3 => ?_)
    refine z_if_ne 23 20 dX11_setElement_17 (by decide) rfl (fun c4 => ?_) (fun c4 => ?_)
    · refine z_aload_n 24 0 dX11_setElement_23 rfl rfl ?_
      refine z_getR 27 zC11 (Nat.le_of_ble_eq_true rfl) rfl w_1057 dX11_setElement_24 rfl (fun v5 _ => ?_)
      refine z_iload_n 28 1 dX11_setElement_27 rfl rfl ?_
      refine z_iaload 29 dX11_setElement_28 rfl (fun v6 _ => ?_)
      refine z_iconst (-1 : Int32) 30 zki_m1 dX11_setElement_29 rfl ?_
      refine z_icmp_ne 36 33 dX11_setElement_30 (by decide) rfl (fun c7 => ?_) (fun c7 => ?_)
      · refine z_aload_n 37 0 dX11_setElement_36 rfl rfl ?_
        refine z_iload_n 38 1 dX11_setElement_37 rfl rfl ?_
        refine z_iload_n 39 2 dX11_setElement_38 rfl rfl ?_
        refine z_callVi 42 (mX11_isIndex b0 x0 x1 x2 q3.2) zyX11_isIndex rfl w_1505 (ci := 11) rfl (Nat.le_of_ble_eq_true rfl) (fun _ e9 => kX11_isIndex e9) wm_yX11_isIndex ws_yX11_isIndex (Nat.le_of_ble_eq_true rfl) rfl (Nat.le_of_ble_eq_true rfl) dX11_setElement_39 rfl (fun q8 => ?_)
        refine z_if_ne 48 45 dX11_setElement_42 (by decide) rfl (fun c9 => ?_) (fun c9 => ?_)
        · refine z_aload_n 49 0 dX11_setElement_48 rfl rfl ?_
          refine z_getR 52 zC11 (Nat.le_of_ble_eq_true rfl) rfl w_1059 dX11_setElement_49 rfl (fun v10 _ => ?_)
          refine z_bipush (nI 30) 54 zkb_30 dX11_setElement_52 rfl ?_
          refine z_iload_n 55 1 dX11_setElement_54 rfl rfl ?_
          refine z_imul 56 dX11_setElement_55 rfl ?_
          refine z_iload_n 57 2 dX11_setElement_56 rfl rfl ?_
          refine z_iadd 58 dX11_setElement_57 rfl ?_
          refine z_aload_n 59 0 dX11_setElement_58 rfl rfl ?_
          refine z_getR 62 zC11 (Nat.le_of_ble_eq_true rfl) rfl w_1057 dX11_setElement_59 rfl (fun v11 _ => ?_)
          refine z_iload_n 63 1 dX11_setElement_62 rfl rfl ?_
          refine z_iaload 64 dX11_setElement_63 rfl (fun v12 _ => ?_)
          refine z_if_ne 72 67 dX11_setElement_64 (by decide) rfl (fun c13 => ?_) (fun c13 => ?_)
          · refine z_iload_n 73 3 dX11_setElement_72 rfl rfl ?_
            refine z_i2c 74 dX11_setElement_73 rfl ?_
            exact z_sub [0, 1, 2, 3] rfl (BX11_setElement_74 b0 x0 x1 x2 x3 (ji2c x3) (((nI 30) * x1) + x2) v10 q8.2 )
          · refine z_iload_n 68 3 dX11_setElement_67 rfl rfl ?_
            refine z_i2b 69 dX11_setElement_68 rfl ?_
            refine z_goto 74 dX11_setElement_69 (by decide) ?_
            exact z_sub [0, 1, 2, 3] rfl (BX11_setElement_74 b0 x0 x1 x2 x3 (ji2b x3) (((nI 30) * x1) + x2) v10 q8.2 )
        · refine z_bipush (-13 : Int32) 47 zkb_m13 dX11_setElement_45 rfl ?_
          exact z_ireturn dX11_setElement_47 rfl
      · refine z_bipush (-11 : Int32) 35 zkb_m11 dX11_setElement_33 rfl ?_
        exact z_ireturn dX11_setElement_35 rfl
    · exact z_sub [] rfl (BX11_setElement_20 b0 q3.2 )
-- X11_setNaN
def fX11_setNaN (x0 : Nat) (x1 : Int32) (x2 : Int32) (h : ZH) : Option (Int32 × ZH) :=
  if x0 < zn h ∧ zK h x0 = 11 then ((fX11_isArray x1 h).bind fun q1 =>
  if q1.1 = 0 then (some ((-2 : Int32), q1.2)) else
  ((gR q1.2 11 x0 40).bind fun v3 =>
  (lI q1.2 14 v3 x1).bind fun v4 =>
  if v4 = (-1 : Int32) then (some ((-11 : Int32), q1.2)) else
  ((gR q1.2 11 x0 40).bind fun v6 =>
  (lI q1.2 14 v6 x1).bind fun v7 =>
  if v7 = (nI 2) then ((fX11_isIndex x0 x1 x2 q1.2).bind fun q9 =>
  if q9.1 = 0 then (some ((-13 : Int32), q9.2)) else
  ((gR q9.2 11 x0 43).bind fun v11 =>
  (sF q9.2 v11 (((nI 30) * x1) + x2) (2143289344 : UInt32)).bind fun h12 =>
  some ((nI 1), h12))) else
  (some ((-12 : Int32), q1.2))))) else none
theorem kX11_setNaN {x0 : Nat} {x1 : Int32} {x2 : Int32} {h : ZH} {x : Int32 × ZH} (e : fX11_setNaN x0 x1 x2 h = some x) : x0 < zn h ∧ zK h x0 = 11 := by
  unfold fX11_setNaN at e
  exact zguard e
theorem mX11_setNaN (b0 : Nat) (x0 : Nat) (x1 : Int32) (x2 : Int32) (h : ZH) : ZM zi b0 YX11_setNaN 3 [.ref (b0 + x0), .int x1, .int x2] h (fX11_setNaN x0 x1 x2 h) := by
  unfold fX11_setNaN
  refine ZM.of (by decide) rfl (Nat.le_of_ble_eq_true rfl) (fun _ => trivial) ?_
  refine z_sub (lv2 := [(0, .ref (b0 + x0)), (1, .int x1), (2, .int x2)]) [0, 1, 2] rfl ?_
  refine z_guard (fun _ => ?_)
  refine z_iload_n 1 1 dX11_setNaN_0 rfl rfl ?_
  refine z_callSi 4 (mX11_isArray b0 x1 h) zyX11_isArray rfl w_1498 wt_yX11_isArray (Nat.le_of_ble_eq_true rfl) rfl (Nat.le_of_ble_eq_true rfl) dX11_setNaN_1 rfl (fun q1 => ?_)
  refine z_if_ne 10 7 dX11_setNaN_4 (by decide) rfl (fun c2 => ?_) (fun c2 => ?_)
  · refine z_aload_n 11 0 dX11_setNaN_10 rfl rfl ?_
    refine z_getR 14 zC11 (Nat.le_of_ble_eq_true rfl) rfl w_1057 dX11_setNaN_11 rfl (fun v3 _ => ?_)
    refine z_iload_n 15 1 dX11_setNaN_14 rfl rfl ?_
    refine z_iaload 16 dX11_setNaN_15 rfl (fun v4 _ => ?_)
    refine z_iconst (-1 : Int32) 17 zki_m1 dX11_setNaN_16 rfl ?_
    refine z_icmp_ne 23 20 dX11_setNaN_17 (by decide) rfl (fun c5 => ?_) (fun c5 => ?_)
    · refine z_aload_n 24 0 dX11_setNaN_23 rfl rfl ?_
      refine z_getR 27 zC11 (Nat.le_of_ble_eq_true rfl) rfl w_1057 dX11_setNaN_24 rfl (fun v6 _ => ?_)
      refine z_iload_n 28 1 dX11_setNaN_27 rfl rfl ?_
      refine z_iaload 29 dX11_setNaN_28 rfl (fun v7 _ => ?_)
      refine z_iconst (nI 2) 30 zki_2 dX11_setNaN_29 rfl ?_
      refine z_icmp_eq 36 33 dX11_setNaN_30 (by decide) rfl (fun c8 => ?_) (fun c8 => ?_)
      · refine z_aload_n 37 0 dX11_setNaN_36 rfl rfl ?_
        refine z_iload_n 38 1 dX11_setNaN_37 rfl rfl ?_
        refine z_iload_n 39 2 dX11_setNaN_38 rfl rfl ?_
        refine z_callVi 42 (mX11_isIndex b0 x0 x1 x2 q1.2) zyX11_isIndex rfl w_1505 (ci := 11) rfl (Nat.le_of_ble_eq_true rfl) (fun _ e9 => kX11_isIndex e9) wm_yX11_isIndex ws_yX11_isIndex (Nat.le_of_ble_eq_true rfl) rfl (Nat.le_of_ble_eq_true rfl) dX11_setNaN_39 rfl (fun q9 => ?_)
        refine z_if_ne 48 45 dX11_setNaN_42 (by decide) rfl (fun c10 => ?_) (fun c10 => ?_)
        · refine z_aload_n 49 0 dX11_setNaN_48 rfl rfl ?_
          refine z_getR 52 zC11 (Nat.le_of_ble_eq_true rfl) rfl w_1060 dX11_setNaN_49 rfl (fun v11 _ => ?_)
          refine z_bipush (nI 30) 54 zkb_30 dX11_setNaN_52 rfl ?_
          refine z_iload_n 55 1 dX11_setNaN_54 rfl rfl ?_
          refine z_imul 56 dX11_setNaN_55 rfl ?_
          refine z_iload_n 57 2 dX11_setNaN_56 rfl rfl ?_
          refine z_iadd 58 dX11_setNaN_57 rfl ?_
          refine z_ldcwf 61 w_1514 dX11_setNaN_58 rfl ?_
          refine z_fastore 62 dX11_setNaN_61 rfl (fun h12 _ => ?_)
          refine z_iconst (nI 1) 63 zki_1 dX11_setNaN_62 rfl ?_
          exact z_ireturn dX11_setNaN_63 rfl
        · refine z_bipush (-13 : Int32) 47 zkb_m13 dX11_setNaN_45 rfl ?_
          exact z_ireturn dX11_setNaN_47 rfl
      · refine z_bipush (-12 : Int32) 35 zkb_m12 dX11_setNaN_33 rfl ?_
        exact z_ireturn dX11_setNaN_35 rfl
    · refine z_bipush (-11 : Int32) 22 zkb_m11 dX11_setNaN_20 rfl ?_
      exact z_ireturn dX11_setNaN_22 rfl
  · refine z_bipush (-2 : Int32) 9 zkb_m2 dX11_setNaN_7 rfl ?_
    exact z_ireturn dX11_setNaN_9 rfl
-- X11_compareElements
def bX11_compareElements_157 (t0 : Int32) (h : ZH) : Option (Int32 × ZH) :=
  some (t0, h)
theorem BX11_compareElements_157 (b0 : Nat) (t0 : Int32) (h : ZH) : Zr zi b0 YX11_compareElements 3 157 [] [.int t0] h (bX11_compareElements_157 t0 h) := by
  unfold bX11_compareElements_157
  exact z_ireturn dX11_compareElements_157 rfl
def bX11_compareElements_118 (x4 : UInt32) (t0 : UInt32) (h : ZH) : Option (Int32 × ZH) :=
  if 0 ≤ (jfcmp x4 t0 .g) then (if (jfcmp x4 t0 .l) = 0 then (bX11_compareElements_157 (nI 1) h) else
  (if (jfcmp x4 t0 .l) ≤ 0 then (bX11_compareElements_157 (nI 3) h) else
  (bX11_compareElements_157 (nI 2) h))) else
  (bX11_compareElements_157 (nI 0) h)
theorem BX11_compareElements_118 (b0 : Nat) (x4 : UInt32) (t0 : UInt32) (h : ZH) : Zr zi b0 YX11_compareElements 3 118 [(4, .float x4)] [.float t0] h (bX11_compareElements_118 x4 t0 h) := by
  unfold bX11_compareElements_118
  refine z_fstore (lv2 := [(5, .float t0), (4, .float x4)]) 120 dX11_compareElements_118 rfl (Nat.le_of_ble_eq_true rfl) rfl ?_
  refine z_fload 122 1 dX11_compareElements_120 rfl rfl ?_
  refine z_fload 124 0 dX11_compareElements_122 rfl rfl ?_
  refine z_fcmp 125 dX11_compareElements_124 rfl ?_
  refine z_if_ge 132 128 dX11_compareElements_125 (by decide) rfl (fun c1 => ?_) (fun c1 => ?_)
  · refine z_fload 134 1 dX11_compareElements_132 rfl rfl ?_
    refine z_fload 136 0 dX11_compareElements_134 rfl rfl ?_
    refine z_fcmp 137 dX11_compareElements_136 rfl ?_
    refine z_if_ne 144 140 dX11_compareElements_137 (by decide) rfl (fun c2 => ?_) (fun c2 => ?_)
    · refine z_fload 146 1 dX11_compareElements_144 rfl rfl ?_
      refine z_fload 148 0 dX11_compareElements_146 rfl rfl ?_
      refine z_fcmp 149 dX11_compareElements_148 rfl ?_
      refine z_if_le 156 152 dX11_compareElements_149 (by decide) rfl (fun c3 => ?_) (fun c3 => ?_)
      · refine z_iconst (nI 3) 157 zki_3 dX11_compareElements_156 rfl ?_
        exact z_sub [] rfl (BX11_compareElements_157 b0 (nI 3) h )
      · refine z_iconst (nI 2) 153 zki_2 dX11_compareElements_152 rfl ?_
        refine z_goto 157 dX11_compareElements_153 (by decide) ?_
        exact z_sub [] rfl (BX11_compareElements_157 b0 (nI 2) h )
    · refine z_iconst (nI 1) 141 zki_1 dX11_compareElements_140 rfl ?_
      refine z_goto 157 dX11_compareElements_141 (by decide) ?_
      exact z_sub [] rfl (BX11_compareElements_157 b0 (nI 1) h )
  · refine z_iconst (nI 0) 129 zki_0 dX11_compareElements_128 rfl ?_
    refine z_goto 157 dX11_compareElements_129 (by decide) ?_
    exact z_sub [] rfl (BX11_compareElements_157 b0 (nI 0) h )
def bX11_compareElements_80 (x0 : Nat) (x1 : Int32) (x3 : Int32) (t0 : UInt32) (h : ZH) : Option (Int32 × ZH) :=
  (gR h 11 x0 40).bind fun v1 =>
  (lI h 14 v1 x1).bind fun v2 =>
  if v2 = (nI 2) then ((gR h 11 x0 43).bind fun v6 =>
  (lF h v6 (((nI 30) * x1) + x3)).bind fun v7 =>
  bX11_compareElements_118 t0 v7 h) else
  ((gR h 11 x0 42).bind fun v4 =>
  (lI h 14 v4 (((nI 30) * x1) + x3)).bind fun v5 =>
  bX11_compareElements_118 t0 (FP.i2f v5) h)
theorem BX11_compareElements_80 (b0 : Nat) (x0 : Nat) (x1 : Int32) (x3 : Int32) (t0 : UInt32) (h : ZH) : Zr zi b0 YX11_compareElements 3 80 [(0, .ref (b0 + x0)), (1, .int x1), (3, .int x3)] [.float t0] h (bX11_compareElements_80 x0 x1 x3 t0 h) := by
  unfold bX11_compareElements_80
  refine z_fstore (lv2 := [(4, .float t0), (0, .ref (b0 + x0)), (1, .int x1), (3, .int x3)]) 82 dX11_compareElements_80 rfl (Nat.le_of_ble_eq_true rfl) rfl ?_
  refine z_aload_n 83 1 dX11_compareElements_82 rfl rfl ?_
  refine z_getR 86 zC11 (Nat.le_of_ble_eq_true rfl) rfl w_1057 dX11_compareElements_83 rfl (fun v1 _ => ?_)
  refine z_iload_n 87 2 dX11_compareElements_86 rfl rfl ?_
  refine z_iaload 88 dX11_compareElements_87 rfl (fun v2 _ => ?_)
  refine z_iconst (nI 2) 89 zki_2 dX11_compareElements_88 rfl ?_
  refine z_icmp_ne 106 92 dX11_compareElements_89 (by decide) rfl (fun c3 => ?_) (fun c3 => ?_)
  · refine z_aload_n 107 1 dX11_compareElements_106 rfl rfl ?_
    refine z_getR 110 zC11 (Nat.le_of_ble_eq_true rfl) rfl w_1059 dX11_compareElements_107 rfl (fun v4 _ => ?_)
    refine z_bipush (nI 30) 112 zkb_30 dX11_compareElements_110 rfl ?_
    refine z_iload_n 113 2 dX11_compareElements_112 rfl rfl ?_
    refine z_imul 114 dX11_compareElements_113 rfl ?_
    refine z_iload_n 115 3 dX11_compareElements_114 rfl rfl ?_
    refine z_iadd 116 dX11_compareElements_115 rfl ?_
    refine z_iaload 117 dX11_compareElements_116 rfl (fun v5 _ => ?_)
    refine z_i2f 118 dX11_compareElements_117 rfl ?_
    exact z_sub [0] rfl (BX11_compareElements_118 b0 t0 (FP.i2f v5) h )
  · refine z_aload_n 93 1 dX11_compareElements_92 rfl rfl ?_
    refine z_getR 96 zC11 (Nat.le_of_ble_eq_true rfl) rfl w_1060 dX11_compareElements_93 rfl (fun v6 _ => ?_)
    refine z_bipush (nI 30) 98 zkb_30 dX11_compareElements_96 rfl ?_
    refine z_iload_n 99 2 dX11_compareElements_98 rfl rfl ?_
    refine z_imul 100 dX11_compareElements_99 rfl ?_
    refine z_iload_n 101 3 dX11_compareElements_100 rfl rfl ?_
    refine z_iadd 102 dX11_compareElements_101 rfl ?_
    refine z_faload 103 dX11_compareElements_102 rfl (fun v7 _ => ?_)
    refine z_goto 118 dX11_compareElements_103 (by decide) ?_
    exact z_sub [0] rfl (BX11_compareElements_118 b0 t0 v7 h )
def bX11_compareElements_41 (h : ZH) : Option (Int32 × ZH) :=
  some ((-13 : Int32), h)
theorem BX11_compareElements_41 (b0 : Nat) (h : ZH) : Zr zi b0 YX11_compareElements 3 41 [] [] h (bX11_compareElements_41 h) := by
  unfold bX11_compareElements_41
  refine z_bipush (-13 : Int32) 43 zkb_m13 dX11_compareElements_41 rfl ?_
  exact z_ireturn dX11_compareElements_43 rfl
def fX11_compareElements (x0 : Nat) (x1 : Int32) (x2 : Int32) (x3 : Int32) (h : ZH) : Option (Int32 × ZH) :=
  if x0 < zn h ∧ zK h x0 = 11 then ((fX11_isArray x1 h).bind fun q1 =>
  if q1.1 = 0 then (some ((-2 : Int32), q1.2)) else
  ((gR q1.2 11 x0 40).bind fun v3 =>
  (lI q1.2 14 v3 x1).bind fun v4 =>
  if v4 = (-1 : Int32) then (some ((-11 : Int32), q1.2)) else
  ((fX11_isIndex x0 x1 x2 q1.2).bind fun q6 =>
  if q6.1 = 0 then (bX11_compareElements_41 q6.2) else
  ((fX11_isIndex x0 x1 x3 q6.2).bind fun q8 =>
  if q8.1 = 0 then (bX11_compareElements_41 q8.2) else
  ((gR q8.2 11 x0 40).bind fun v10 =>
  (lI q8.2 14 v10 x1).bind fun v11 =>
  if v11 = (nI 2) then ((gR q8.2 11 x0 43).bind fun v15 =>
  (lF q8.2 v15 (((nI 30) * x1) + x2)).bind fun v16 =>
  bX11_compareElements_80 x0 x1 x3 v16 q8.2) else
  ((gR q8.2 11 x0 42).bind fun v13 =>
  (lI q8.2 14 v13 (((nI 30) * x1) + x2)).bind fun v14 =>
  bX11_compareElements_80 x0 x1 x3 (FP.i2f v14) q8.2)))))) else none
theorem kX11_compareElements {x0 : Nat} {x1 : Int32} {x2 : Int32} {x3 : Int32} {h : ZH} {x : Int32 × ZH} (e : fX11_compareElements x0 x1 x2 x3 h = some x) : x0 < zn h ∧ zK h x0 = 11 := by
  unfold fX11_compareElements at e
  exact zguard e
theorem mX11_compareElements (b0 : Nat) (x0 : Nat) (x1 : Int32) (x2 : Int32) (x3 : Int32) (h : ZH) : ZM zi b0 YX11_compareElements 3 [.ref (b0 + x0), .int x1, .int x2, .int x3] h (fX11_compareElements x0 x1 x2 x3 h) := by
  unfold fX11_compareElements
  refine ZM.of (by decide) rfl (Nat.le_of_ble_eq_true rfl) (fun _ => trivial) ?_
  refine z_sub (lv2 := [(0, .ref (b0 + x0)), (1, .int x1), (2, .int x2), (3, .int x3)]) [0, 1, 2, 3] rfl ?_
  refine z_guard (fun _ => ?_)
  refine z_iload_n 1 1 dX11_compareElements_0 rfl rfl ?_
  refine z_callSi 4 (mX11_isArray b0 x1 h) zyX11_isArray rfl w_1498 wt_yX11_isArray (Nat.le_of_ble_eq_true rfl) rfl (Nat.le_of_ble_eq_true rfl) dX11_compareElements_1 rfl (fun q1 => ?_)
  refine z_if_ne 10 7 dX11_compareElements_4 (by decide) rfl (fun c2 => ?_) (fun c2 => ?_)
  · refine z_aload_n 11 0 dX11_compareElements_10 rfl rfl ?_
    refine z_getR 14 zC11 (Nat.le_of_ble_eq_true rfl) rfl w_1057 dX11_compareElements_11 rfl (fun v3 _ => ?_)
    refine z_iload_n 15 1 dX11_compareElements_14 rfl rfl ?_
    refine z_iaload 16 dX11_compareElements_15 rfl (fun v4 _ => ?_)
    refine z_iconst (-1 : Int32) 17 zki_m1 dX11_compareElements_16 rfl ?_
    refine z_icmp_ne 23 20 dX11_compareElements_17 (by decide) rfl (fun c5 => ?_) (fun c5 => ?_)
    · refine z_aload_n 24 0 dX11_compareElements_23 rfl rfl ?_
      refine z_iload_n 25 1 dX11_compareElements_24 rfl rfl ?_
      refine z_iload_n 26 2 dX11_compareElements_25 rfl rfl ?_
      refine z_callVi 29 (mX11_isIndex b0 x0 x1 x2 q1.2) zyX11_isIndex rfl w_1505 (ci := 11) rfl (Nat.le_of_ble_eq_true rfl) (fun _ e9 => kX11_isIndex e9) wm_yX11_isIndex ws_yX11_isIndex (Nat.le_of_ble_eq_true rfl) rfl (Nat.le_of_ble_eq_true rfl) dX11_compareElements_26 rfl (fun q6 => ?_)
      refine z_if_eq 41 32 dX11_compareElements_29 (by decide) rfl (fun c7 => ?_) (fun c7 => ?_)
      · exact z_sub [] rfl (BX11_compareElements_41 b0 q6.2 )
      · refine z_aload_n 33 0 dX11_compareElements_32 rfl rfl ?_
        refine z_iload_n 34 1 dX11_compareElements_33 rfl rfl ?_
        refine z_iload_n 35 3 dX11_compareElements_34 rfl rfl ?_
        refine z_callVi 38 (mX11_isIndex b0 x0 x1 x3 q6.2) zyX11_isIndex rfl w_1505 (ci := 11) rfl (Nat.le_of_ble_eq_true rfl) (fun _ e9 => kX11_isIndex e9) wm_yX11_isIndex ws_yX11_isIndex (Nat.le_of_ble_eq_true rfl) rfl (Nat.le_of_ble_eq_true rfl) dX11_compareElements_35 rfl (fun q8 => ?_)
        refine z_if_ne 44 41 dX11_compareElements_38 (by decide) rfl (fun c9 => ?_) (fun c9 => ?_)
        · refine z_aload_n 45 0 dX11_compareElements_44 rfl rfl ?_
          refine z_getR 48 zC11 (Nat.le_of_ble_eq_true rfl) rfl w_1057 dX11_compareElements_45 rfl (fun v10 _ => ?_)
          refine z_iload_n 49 1 dX11_compareElements_48 rfl rfl ?_
          refine z_iaload 50 dX11_compareElements_49 rfl (fun v11 _ => ?_)
          refine z_iconst (nI 2) 51 zki_2 dX11_compareElements_50 rfl ?_
          refine z_icmp_ne 68 54 dX11_compareElements_51 (by decide) rfl (fun c12 => ?_) (fun c12 => ?_)
          · refine z_aload_n 69 0 dX11_compareElements_68 rfl rfl ?_
            refine z_getR 72 zC11 (Nat.le_of_ble_eq_true rfl) rfl w_1059 dX11_compareElements_69 rfl (fun v13 _ => ?_)
            refine z_bipush (nI 30) 74 zkb_30 dX11_compareElements_72 rfl ?_
            refine z_iload_n 75 1 dX11_compareElements_74 rfl rfl ?_
            refine z_imul 76 dX11_compareElements_75 rfl ?_
            refine z_iload_n 77 2 dX11_compareElements_76 rfl rfl ?_
            refine z_iadd 78 dX11_compareElements_77 rfl ?_
            refine z_iaload 79 dX11_compareElements_78 rfl (fun v14 _ => ?_)
            refine z_i2f 80 dX11_compareElements_79 rfl ?_
            exact z_sub [0, 1, 3] rfl (BX11_compareElements_80 b0 x0 x1 x3 (FP.i2f v14) q8.2 )
          · refine z_aload_n 55 0 dX11_compareElements_54 rfl rfl ?_
            refine z_getR 58 zC11 (Nat.le_of_ble_eq_true rfl) rfl w_1060 dX11_compareElements_55 rfl (fun v15 _ => ?_)
            refine z_bipush (nI 30) 60 zkb_30 dX11_compareElements_58 rfl ?_
            refine z_iload_n 61 1 dX11_compareElements_60 rfl rfl ?_
            refine z_imul 62 dX11_compareElements_61 rfl ?_
            refine z_iload_n 63 2 dX11_compareElements_62 rfl rfl ?_
            refine z_iadd 64 dX11_compareElements_63 rfl ?_
            refine z_faload 65 dX11_compareElements_64 rfl (fun v16 _ => ?_)
            refine z_goto 80 dX11_compareElements_65 (by decide) ?_
            exact z_sub [0, 1, 3] rfl (BX11_compareElements_80 b0 x0 x1 x3 v16 q8.2 )
        · exact z_sub [] rfl (BX11_compareElements_41 b0 q8.2 )
    · refine z_bipush (-11 : Int32) 22 zkb_m11 dX11_compareElements_20 rfl ?_
      exact z_ireturn dX11_compareElements_22 rfl
  · refine z_bipush (-2 : Int32) 9 zkb_m2 dX11_compareElements_7 rfl ?_
    exact z_ireturn dX11_compareElements_9 rfl
-- X11_holds
def bX11_holds_100 (t0 : Int32) (h : ZH) : Option (Int32 × ZH) :=
  if t0 = 0 ∨ t0 = 1 then some (t0, h) else none
theorem BX11_holds_100 (b0 : Nat) (t0 : Int32) (h : ZH) : Zr zi b0 YX11_holds 1 100 [] [.int t0] h (bX11_holds_100 t0 h) := by
  unfold bX11_holds_100
  exact z_zreturn dX11_holds_100 rfl
def bX11_holds_77 (t0 : Int32) (h : ZH) : Option (Int32 × ZH) :=
  if t0 = 0 ∨ t0 = 1 then some (t0, h) else none
theorem BX11_holds_77 (b0 : Nat) (t0 : Int32) (h : ZH) : Zr zi b0 YX11_holds 1 77 [] [.int t0] h (bX11_holds_77 t0 h) := by
  unfold bX11_holds_77
  exact z_zreturn dX11_holds_77 rfl
def bX11_holds_54 (t0 : Int32) (h : ZH) : Option (Int32 × ZH) :=
  if t0 = 0 ∨ t0 = 1 then some (t0, h) else none
theorem BX11_holds_54 (b0 : Nat) (t0 : Int32) (h : ZH) : Zr zi b0 YX11_holds 1 54 [] [.int t0] h (bX11_holds_54 t0 h) := by
  unfold bX11_holds_54
  exact z_zreturn dX11_holds_54 rfl
def fX11_holds (x0 : Nat) (x1 : Int32) (x2 : Int32) (x3 : Int64) (h : ZH) : Option (Int32 × ZH) :=
  if x0 < zn h ∧ zK h x0 = 11 then ((gR h 11 x0 40).bind fun v1 =>
  (lI h 14 v1 x1).bind fun v2 =>
  if v2 = 0 then ((gR h 11 x0 42).bind fun v4 =>
  (lI h 14 v4 (((nI 30) * x1) + x2)).bind fun v5 =>
  if v5 = (ji2b (x3.toInt32)) then (bX11_holds_54 (nI 1) h) else
  (bX11_holds_54 (nI 0) h)) else
  if v2 = 1 then ((gR h 11 x0 42).bind fun v8 =>
  (lI h 14 v8 (((nI 30) * x1) + x2)).bind fun v9 =>
  if v9 = (ji2c (x3.toInt32)) then (bX11_holds_77 (nI 1) h) else
  (bX11_holds_77 (nI 0) h)) else
  ((gR h 11 x0 43).bind fun v11 =>
  (lF h v11 (((nI 30) * x1) + x2)).bind fun v12 =>
  if (jfcmp v12 (FP.l2f x3) .l) = 0 then (bX11_holds_100 (nI 1) h) else
  (bX11_holds_100 (nI 0) h))) else none
theorem kX11_holds {x0 : Nat} {x1 : Int32} {x2 : Int32} {x3 : Int64} {h : ZH} {x : Int32 × ZH} (e : fX11_holds x0 x1 x2 x3 h = some x) : x0 < zn h ∧ zK h x0 = 11 := by
  unfold fX11_holds at e
  exact zguard e
theorem mX11_holds (b0 : Nat) (x0 : Nat) (x1 : Int32) (x2 : Int32) (x3 : Int64) (h : ZH) : ZM zi b0 YX11_holds 1 [.ref (b0 + x0), .int x1, .int x2, .long x3] h (fX11_holds x0 x1 x2 x3 h) := by
  unfold fX11_holds
  refine ZM.of (by decide) rfl (Nat.le_of_ble_eq_true rfl) (fun _ => trivial) ?_
  refine z_sub (lv2 := [(0, .ref (b0 + x0)), (1, .int x1), (2, .int x2), (3, .long x3)]) [0, 1, 2, 3] rfl ?_
  refine z_guard (fun _ => ?_)
  refine z_aload_n 1 0 dX11_holds_0 rfl rfl ?_
  refine z_getR 4 zC11 (Nat.le_of_ble_eq_true rfl) rfl w_1057 dX11_holds_1 rfl (fun v1 _ => ?_)
  refine z_iload_n 5 1 dX11_holds_4 rfl rfl ?_
  refine z_iaload 6 dX11_holds_5 rfl (fun v2 _ => ?_)
  refine z_ite (fun c3 => ?_) (fun c3 => ?_)
  · refine z_lookup (off := 26) 32 dX11_holds_6 (by decide) (by rw [c3] <;> decide) (by decide) ?_
    refine z_aload_n 33 0 dX11_holds_32 rfl rfl ?_
    refine z_getR 36 zC11 (Nat.le_of_ble_eq_true rfl) rfl w_1059 dX11_holds_33 rfl (fun v4 _ => ?_)
    refine z_bipush (nI 30) 38 zkb_30 dX11_holds_36 rfl ?_
    refine z_iload_n 39 1 dX11_holds_38 rfl rfl ?_
    refine z_imul 40 dX11_holds_39 rfl ?_
    refine z_iload_n 41 2 dX11_holds_40 rfl rfl ?_
    refine z_iadd 42 dX11_holds_41 rfl ?_
    refine z_iaload 43 dX11_holds_42 rfl (fun v5 _ => ?_)
    refine z_lload_n 44 3 dX11_holds_43 rfl rfl ?_
    refine z_l2i 45 dX11_holds_44 rfl ?_
    refine z_i2b 46 dX11_holds_45 rfl ?_
    refine z_icmp_ne 53 49 dX11_holds_46 (by decide) rfl (fun c6 => ?_) (fun c6 => ?_)
    · refine z_iconst (nI 0) 54 zki_0 dX11_holds_53 rfl ?_
      exact z_sub [] rfl (BX11_holds_54 b0 (nI 0) h )
    · refine z_iconst (nI 1) 50 zki_1 dX11_holds_49 rfl ?_
      refine z_goto 54 dX11_holds_50 (by decide) ?_
      exact z_sub [] rfl (BX11_holds_54 b0 (nI 1) h )
  refine z_ite (fun c7 => ?_) (fun c7 => ?_)
  · refine z_lookup (off := 49) 55 dX11_holds_6 (by decide) (by rw [c7] <;> decide) (by decide) ?_
    refine z_aload_n 56 0 dX11_holds_55 rfl rfl ?_
    refine z_getR 59 zC11 (Nat.le_of_ble_eq_true rfl) rfl w_1059 dX11_holds_56 rfl (fun v8 _ => ?_)
    refine z_bipush (nI 30) 61 zkb_30 dX11_holds_59 rfl ?_
    refine z_iload_n 62 1 dX11_holds_61 rfl rfl ?_
    refine z_imul 63 dX11_holds_62 rfl ?_
    refine z_iload_n 64 2 dX11_holds_63 rfl rfl ?_
    refine z_iadd 65 dX11_holds_64 rfl ?_
    refine z_iaload 66 dX11_holds_65 rfl (fun v9 _ => ?_)
    refine z_lload_n 67 3 dX11_holds_66 rfl rfl ?_
    refine z_l2i 68 dX11_holds_67 rfl ?_
    refine z_i2c 69 dX11_holds_68 rfl ?_
    refine z_icmp_ne 76 72 dX11_holds_69 (by decide) rfl (fun c10 => ?_) (fun c10 => ?_)
    · refine z_iconst (nI 0) 77 zki_0 dX11_holds_76 rfl ?_
      exact z_sub [] rfl (BX11_holds_77 b0 (nI 0) h )
    · refine z_iconst (nI 1) 73 zki_1 dX11_holds_72 rfl ?_
      refine z_goto 77 dX11_holds_73 (by decide) ?_
      exact z_sub [] rfl (BX11_holds_77 b0 (nI 1) h )
  refine z_lookup (off := 72) 78 dX11_holds_6 (by decide) (sw_X11_holds_6 (by assumption) (by assumption)) (by decide) ?_
  refine z_aload_n 79 0 dX11_holds_78 rfl rfl ?_
  refine z_getR 82 zC11 (Nat.le_of_ble_eq_true rfl) rfl w_1060 dX11_holds_79 rfl (fun v11 _ => ?_)
  refine z_bipush (nI 30) 84 zkb_30 dX11_holds_82 rfl ?_
  refine z_iload_n 85 1 dX11_holds_84 rfl rfl ?_
  refine z_imul 86 dX11_holds_85 rfl ?_
  refine z_iload_n 87 2 dX11_holds_86 rfl rfl ?_
  refine z_iadd 88 dX11_holds_87 rfl ?_
  refine z_faload 89 dX11_holds_88 rfl (fun v12 _ => ?_)
  refine z_lload_n 90 3 dX11_holds_89 rfl rfl ?_
  refine z_l2f 91 dX11_holds_90 rfl ?_
  refine z_fcmp 92 dX11_holds_91 rfl ?_
  refine z_if_ne 99 95 dX11_holds_92 (by decide) rfl (fun c13 => ?_) (fun c13 => ?_)
  · refine z_iconst (nI 0) 100 zki_0 dX11_holds_99 rfl ?_
    exact z_sub [] rfl (BX11_holds_100 b0 (nI 0) h )
  · refine z_iconst (nI 1) 96 zki_1 dX11_holds_95 rfl ?_
    refine z_goto 100 dX11_holds_96 (by decide) ?_
    exact z_sub [] rfl (BX11_holds_100 b0 (nI 1) h )
-- X11_checkCounts
def kX11_checkCounts_43 (x0 : Nat) (x1 : Int32) (self43 : Int32 × ZH → Option (Int32 × ZH)) (x3 : Int32) (h : ZH) : Option (Int32 × ZH) :=
  (gR h 11 x0 41).bind fun v1 =>
  (lI h 14 v1 x1).bind fun v2 =>
  if v2 ≤ x3 then (some ((-1 : Int32), h)) else
  ((gR h 11 x0 15).bind fun v4 =>
  (gI h 11 x0 14).bind fun v5 =>
  (lJ h v4 (((nI 256) * x3) + v5)).bind fun v6 =>
  (fX11_holds x0 x1 x3 v6 h).bind fun q7 =>
  if q7.1 = 0 then (some (x3, q7.2)) else
  (self43 ((x3 + (nI 1)), q7.2)))
def lX11_checkCounts_43 (x0 : Nat) (x1 : Int32) : (Int32 × ZH → Option (Int32 × ZH)) → Int32 × ZH → Option (Int32 × ZH) := fun self s => kX11_checkCounts_43 x0 x1 self s.1 s.2
theorem KX11_checkCounts_43 (b0 : Nat) (x0 : Nat) (x1 : Int32) (self43 : Int32 × ZH → Option (Int32 × ZH)) (hself43 : ∀ (y3 : Int32) (hh : ZH), Zr zi b0 YX11_checkCounts 5 43 [(0, .ref (b0 + x0)), (1, .int x1), (3, .int y3)] [] hh (self43 (y3, hh))) (x3 : Int32) (h : ZH) : Zr zi b0 YX11_checkCounts 5 43 [(0, .ref (b0 + x0)), (1, .int x1), (3, .int x3)] [] h (kX11_checkCounts_43 x0 x1 self43 x3 h) := by
  unfold kX11_checkCounts_43
  refine z_iload_n 44 2 dX11_checkCounts_43 rfl rfl ?_
  refine z_aload_n 45 0 dX11_checkCounts_44 rfl rfl ?_
  refine z_getR 48 zC11 (Nat.le_of_ble_eq_true rfl) rfl w_1058 dX11_checkCounts_45 rfl (fun v1 _ => ?_)
  refine z_iload_n 49 1 dX11_checkCounts_48 rfl rfl ?_
  refine z_iaload 50 dX11_checkCounts_49 rfl (fun v2 _ => ?_)
  refine z_icmp_ge 85 53 dX11_checkCounts_50 (by decide) rfl (fun c3 => ?_) (fun c3 => ?_)
  · refine z_iconst (-1 : Int32) 86 zki_m1 dX11_checkCounts_85 rfl ?_
    exact z_ireturn dX11_checkCounts_86 rfl
  · refine z_aload_n 54 0 dX11_checkCounts_53 rfl rfl ?_
    refine z_iload_n 55 1 dX11_checkCounts_54 rfl rfl ?_
    refine z_iload_n 56 2 dX11_checkCounts_55 rfl rfl ?_
    refine z_aload_n 57 0 dX11_checkCounts_56 rfl rfl ?_
    refine z_getR 60 zC11 (Nat.le_of_ble_eq_true rfl) rfl w_1032 dX11_checkCounts_57 rfl (fun v4 _ => ?_)
    refine z_sipush (nI 256) 63 zks_256 dX11_checkCounts_60 rfl ?_
    refine z_iload_n 64 2 dX11_checkCounts_63 rfl rfl ?_
    refine z_imul 65 dX11_checkCounts_64 rfl ?_
    refine z_aload_n 66 0 dX11_checkCounts_65 rfl rfl ?_
    refine z_getI 69 zC11 (Nat.le_of_ble_eq_true rfl) rfl w_1031 dX11_checkCounts_66 rfl (fun v5 _ => ?_)
    refine z_iadd 70 dX11_checkCounts_69 rfl ?_
    refine z_laload 71 dX11_checkCounts_70 rfl (fun v6 _ => ?_)
    refine z_callVi 74 (mX11_holds b0 x0 x1 x3 v6 h) zyX11_holds rfl w_1523 (ci := 11) rfl (Nat.le_of_ble_eq_true rfl) (fun _ e9 => kX11_holds e9) wm_yX11_holds ws_yX11_holds (Nat.le_of_ble_eq_true rfl) rfl (Nat.le_of_ble_eq_true rfl) dX11_checkCounts_71 rfl (fun q7 => ?_)
    refine z_if_ne 79 77 dX11_checkCounts_74 (by decide) rfl (fun c8 => ?_) (fun c8 => ?_)
    · refine z_iinc (lv2 := [(3, .int (x3 + (nI 1))), (0, .ref (b0 + x0)), (1, .int x1)]) (nI 1) 82 2 dX11_checkCounts_79 rfl rfl zki_1 (Nat.le_of_ble_eq_true rfl) rfl ?_
      refine z_goto 43 dX11_checkCounts_82 (by decide) ?_
      exact z_sub [1, 2, 0] rfl (hself43 (x3 + (nI 1)) q7.2)
    · refine z_iload_n 78 2 dX11_checkCounts_77 rfl rfl ?_
      exact z_ireturn dX11_checkCounts_78 rfl
theorem BX11_checkCounts_43 (b0 : Nat) (x0 : Nat) (x1 : Int32) (n : Nat) (x3 : Int32) (h : ZH) : Zr zi b0 YX11_checkCounts 5 43 [(0, .ref (b0 + x0)), (1, .int x1), (3, .int x3)] [] h (zloop (lX11_checkCounts_43 x0 x1) n (x3, h)) :=
  zloop_Zr (fun s => [(0, .ref (b0 + x0)), (1, .int x1), (3, .int s.1)]) (fun _ => []) (fun s => s.2) (lX11_checkCounts_43 x0 x1) (fun self hs s => KX11_checkCounts_43 b0 x0 x1 self (fun y3 hh => hs (y3, hh)) s.1 s.2) n (x3, h)
def bX11_checkCounts_14 (h : ZH) : Option (Int32 × ZH) :=
  some ((-2 : Int32), h)
theorem BX11_checkCounts_14 (b0 : Nat) (h : ZH) : Zr zi b0 YX11_checkCounts 5 14 [] [] h (bX11_checkCounts_14 h) := by
  unfold bX11_checkCounts_14
  refine z_bipush (-2 : Int32) 16 zkb_m2 dX11_checkCounts_14 rfl ?_
  exact z_ireturn dX11_checkCounts_16 rfl
def fX11_checkCounts (x0 : Nat) (x1 : Int32) (x2 : Int32) (h : ZH) : Option (Int32 × ZH) :=
  if x0 < zn h ∧ zK h x0 = 11 then ((fX11_isArray x1 h).bind fun q1 =>
  if q1.1 = 0 then (bX11_checkCounts_14 q1.2) else
  ((fX11_isSlot x2 q1.2).bind fun q3 =>
  if q3.1 = 0 then (bX11_checkCounts_14 q3.2) else
  ((gR q3.2 11 x0 40).bind fun v5 =>
  (lI q3.2 14 v5 x1).bind fun v6 =>
  if v6 = (-1 : Int32) then (some ((-11 : Int32), q3.2)) else
  ((fX11_prepare x0 x2 q3.2).bind fun h8 =>
  (fX11_countTo x0 (nI 30) h8).bind fun h9 =>
  zloop (lX11_checkCounts_43 x0 x1) zfu ((nI 0), h9))))) else none
theorem kX11_checkCounts {x0 : Nat} {x1 : Int32} {x2 : Int32} {h : ZH} {x : Int32 × ZH} (e : fX11_checkCounts x0 x1 x2 h = some x) : x0 < zn h ∧ zK h x0 = 11 := by
  unfold fX11_checkCounts at e
  exact zguard e
theorem mX11_checkCounts (b0 : Nat) (x0 : Nat) (x1 : Int32) (x2 : Int32) (h : ZH) : ZM zi b0 YX11_checkCounts 5 [.ref (b0 + x0), .int x1, .int x2] h (fX11_checkCounts x0 x1 x2 h) := by
  unfold fX11_checkCounts
  refine ZM.of (by decide) rfl (Nat.le_of_ble_eq_true rfl) (fun _ => trivial) ?_
  refine z_sub (lv2 := [(0, .ref (b0 + x0)), (1, .int x1), (2, .int x2)]) [0, 1, 2] rfl ?_
  refine z_guard (fun _ => ?_)
  refine z_iload_n 1 1 dX11_checkCounts_0 rfl rfl ?_
  refine z_callSi 4 (mX11_isArray b0 x1 h) zyX11_isArray rfl w_1498 wt_yX11_isArray (Nat.le_of_ble_eq_true rfl) rfl (Nat.le_of_ble_eq_true rfl) dX11_checkCounts_1 rfl (fun q1 => ?_)
  refine z_if_eq 14 7 dX11_checkCounts_4 (by decide) rfl (fun c2 => ?_) (fun c2 => ?_)
  · exact z_sub [] rfl (BX11_checkCounts_14 b0 q1.2 )
  · refine z_iload_n 8 2 dX11_checkCounts_7 rfl rfl ?_
    refine z_callSi 11 (mX11_isSlot b0 x2 q1.2) zyX11_isSlot rfl w_1154 wt_yX11_isSlot (Nat.le_of_ble_eq_true rfl) rfl (Nat.le_of_ble_eq_true rfl) dX11_checkCounts_8 rfl (fun q3 => ?_)
    refine z_if_ne 17 14 dX11_checkCounts_11 (by decide) rfl (fun c4 => ?_) (fun c4 => ?_)
    · refine z_aload_n 18 0 dX11_checkCounts_17 rfl rfl ?_
      refine z_getR 21 zC11 (Nat.le_of_ble_eq_true rfl) rfl w_1057 dX11_checkCounts_18 rfl (fun v5 _ => ?_)
      refine z_iload_n 22 1 dX11_checkCounts_21 rfl rfl ?_
      refine z_iaload 23 dX11_checkCounts_22 rfl (fun v6 _ => ?_)
      refine z_iconst (-1 : Int32) 24 zki_m1 dX11_checkCounts_23 rfl ?_
      refine z_icmp_ne 30 27 dX11_checkCounts_24 (by decide) rfl (fun c7 => ?_) (fun c7 => ?_)
      · refine z_aload_n 31 0 dX11_checkCounts_30 rfl rfl ?_
        refine z_iload_n 32 2 dX11_checkCounts_31 rfl rfl ?_
        refine z_callVv 35 (mX11_prepare b0 x0 x2 q3.2) zyX11_prepare rfl w_1263 (ci := 11) rfl (Nat.le_of_ble_eq_true rfl) (fun _ e9 => kX11_prepare e9) wm_yX11_prepare ws_yX11_prepare (Nat.le_of_ble_eq_true rfl) rfl (Nat.le_of_ble_eq_true rfl) dX11_checkCounts_32 rfl (fun h8 => ?_)
        refine z_aload_n 36 0 dX11_checkCounts_35 rfl rfl ?_
        refine z_bipush (nI 30) 38 zkb_30 dX11_checkCounts_36 rfl ?_
        refine z_callVv 41 (mX11_countTo b0 x0 (nI 30) h8) zyX11_countTo rfl w_1271 (ci := 11) rfl (Nat.le_of_ble_eq_true rfl) (fun _ e9 => kX11_countTo e9) wm_yX11_countTo ws_yX11_countTo (Nat.le_of_ble_eq_true rfl) rfl (Nat.le_of_ble_eq_true rfl) dX11_checkCounts_38 rfl (fun h9 => ?_)
        refine z_iconst (nI 0) 42 zki_0 dX11_checkCounts_41 rfl ?_
        refine z_istore_n (lv2 := [(3, .int (nI 0)), (0, .ref (b0 + x0)), (1, .int x1), (2, .int x2)]) 43 dX11_checkCounts_42 rfl (Nat.le_of_ble_eq_true rfl) rfl ?_
        exact z_sub [1, 2, 0] rfl (BX11_checkCounts_43 b0 x0 x1 zfu (nI 0) h9)
      · refine z_bipush (-11 : Int32) 29 zkb_m11 dX11_checkCounts_27 rfl ?_
        exact z_ireturn dX11_checkCounts_29 rfl
    · exact z_sub [] rfl (BX11_checkCounts_14 b0 q3.2 )
