/-! FLOATS: whole numbers compare as they do as integers -/
theorem fcmp_i2f {a b : Int32} (ha : a.toInt.natAbs ≤ 2 ^ 24) (hb : b.toInt.natAbs ≤ 2 ^ 24) : FP.fcmp (FP.i2f a) (FP.i2f b) = some (compare a.toInt b.toInt) := FP.Core.fcmp_int (FP.Core.i2f_int ha) (FP.Core.i2f_int hb)
