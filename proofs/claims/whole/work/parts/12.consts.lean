theorem zkb_m100 : (Int8.ofInt (-100)).toInt32 = (-100 : Int32) := by decide
theorem zkb_m14 : (Int8.ofInt (-14)).toInt32 = (-14 : Int32) := by decide
theorem zkb_m13 : (Int8.ofInt (-13)).toInt32 = (-13 : Int32) := by decide
theorem zkb_m12 : (Int8.ofInt (-12)).toInt32 = (-12 : Int32) := by decide
theorem zkb_m11 : (Int8.ofInt (-11)).toInt32 = (-11 : Int32) := by decide
theorem zkb_m6 : (Int8.ofInt (-6)).toInt32 = (-6 : Int32) := by decide
theorem zkb_m5 : (Int8.ofInt (-5)).toInt32 = (-5 : Int32) := by decide
theorem zkb_m4 : (Int8.ofInt (-4)).toInt32 = (-4 : Int32) := by decide
theorem zkb_m3 : (Int8.ofInt (-3)).toInt32 = (-3 : Int32) := by decide
theorem zkb_m2 : (Int8.ofInt (-2)).toInt32 = (-2 : Int32) := by decide
theorem zkb_6 : (Int8.ofInt (6)).toInt32 = (nI 6) := by decide
theorem zkb_7 : (Int8.ofInt (7)).toInt32 = (nI 7) := by decide
theorem zkb_8 : (Int8.ofInt (8)).toInt32 = (nI 8) := by decide
theorem zkb_9 : (Int8.ofInt (9)).toInt32 = (nI 9) := by decide
theorem zkb_10 : (Int8.ofInt (10)).toInt32 = (nI 10) := by decide
theorem zkb_16 : (Int8.ofInt (16)).toInt32 = (nI 16) := by decide
theorem zkb_24 : (Int8.ofInt (24)).toInt32 = (nI 24) := by decide
theorem zkb_28 : (Int8.ofInt (28)).toInt32 = (nI 28) := by decide
theorem zkb_29 : (Int8.ofInt (29)).toInt32 = (nI 29) := by decide
theorem zkb_30 : (Int8.ofInt (30)).toInt32 = (nI 30) := by decide
theorem zkb_32 : (Int8.ofInt (32)).toInt32 = (nI 32) := by decide
theorem zkb_48 : (Int8.ofInt (48)).toInt32 = (nI 48) := by decide
theorem zkb_55 : (Int8.ofInt (55)).toInt32 = (nI 55) := by decide
theorem zkb_59 : (Int8.ofInt (59)).toInt32 = (nI 59) := by decide
theorem zkb_63 : (Int8.ofInt (63)).toInt32 = (nI 63) := by decide
theorem zkb_64 : (Int8.ofInt (64)).toInt32 = (nI 64) := by decide
theorem zkb_97 : (Int8.ofInt (97)).toInt32 = (nI 97) := by decide
theorem zkb_100 : (Int8.ofInt (100)).toInt32 = (nI 100) := by decide
theorem zkb_120 : (Int8.ofInt (120)).toInt32 = (nI 120) := by decide
theorem zkb_127 : (Int8.ofInt (127)).toInt32 = (nI 127) := by decide
theorem zki_m1 : Int32.ofInt (-1) = (-1 : Int32) := by decide
theorem zki_0 : Int32.ofInt (0) = (nI 0) := by decide
theorem zki_1 : Int32.ofInt (1) = (nI 1) := by decide
theorem zki_2 : Int32.ofInt (2) = (nI 2) := by decide
theorem zki_3 : Int32.ofInt (3) = (nI 3) := by decide
theorem zki_4 : Int32.ofInt (4) = (nI 4) := by decide
theorem zki_5 : Int32.ofInt (5) = (nI 5) := by decide
theorem zki_8 : Int32.ofInt (8) = (nI 8) := by decide
theorem zki_16 : Int32.ofInt (16) = (nI 16) := by decide
theorem zks_m9999 : (Int16.ofInt (-9999)).toInt32 = (-9999 : Int32) := by decide
theorem zks_192 : (Int16.ofInt (192)).toInt32 = (nI 192) := by decide
theorem zks_254 : (Int16.ofInt (254)).toInt32 = (nI 254) := by decide
theorem zks_255 : (Int16.ofInt (255)).toInt32 = (nI 255) := by decide
theorem zks_256 : (Int16.ofInt (256)).toInt32 = (nI 256) := by decide
theorem zks_320 : (Int16.ofInt (320)).toInt32 = (nI 320) := by decide
theorem zks_512 : (Int16.ofInt (512)).toInt32 = (nI 512) := by decide
theorem zks_1024 : (Int16.ofInt (1024)).toInt32 = (nI 1024) := by decide
theorem zks_1100 : (Int16.ofInt (1100)).toInt32 = (nI 1100) := by decide
theorem zks_2048 : (Int16.ofInt (2048)).toInt32 = (nI 2048) := by decide
theorem zks_7936 : (Int16.ofInt (7936)).toInt32 = (nI 7936) := by decide
theorem zks_9999 : (Int16.ofInt (9999)).toInt32 = (nI 9999) := by decide
theorem zks_12345 : (Int16.ofInt (12345)).toInt32 = (nI 12345) := by decide
theorem sw_X10_fitsInGraph_3 {x : Int32} (h1 : ¬ x = 1) (h3 : ¬ x = 3) : Op.lookupswitch.offset (#[(1, 25), (3, 33)] : Array (Int × Int)).toList 45 x.toInt = 45 := by
  have e1 : ¬ x.toInt = 1 := fun q => h1 (z_i32_eq (k := 1) q)
  have e3 : ¬ x.toInt = 3 := fun q => h3 (z_i32_eq (k := 3) q)
  simp [Op.lookupswitch.offset, e1, e3, Ne.symm e1, Ne.symm e3, eq_comm]
theorem sw_X11_holds_6 {x : Int32} (h1 : ¬ x = 0) (h3 : ¬ x = 1) : Op.lookupswitch.offset (#[(0, 26), (1, 49)] : Array (Int × Int)).toList 72 x.toInt = 72 := by
  have e1 : ¬ x.toInt = 0 := fun q => h1 (z_i32_eq (k := 0) q)
  have e3 : ¬ x.toInt = 1 := fun q => h3 (z_i32_eq (k := 1) q)
  simp [Op.lookupswitch.offset, e1, e3, Ne.symm e1, Ne.symm e3, eq_comm]
theorem sw_X10_readGraph_56 {x : Int32} (h0 : ¬ x = 0) (h1 : ¬ x = 1) (h2 : ¬ x = 2) : x.toInt < 0 ∨ 2 < x.toInt := by
  have e0 : ¬ x.toInt = 0 := fun q => h0 (z_i32_eq (k := 0) q)
  have e1 : ¬ x.toInt = 1 := fun q => h1 (z_i32_eq (k := 1) q)
  have e2 : ¬ x.toInt = 2 := fun q => h2 (z_i32_eq (k := 2) q)
  omega
