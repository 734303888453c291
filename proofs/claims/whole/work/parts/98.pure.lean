theorem zpure (xs : Nat → Int32) (L sa : Nat) (hL : L ≤ 2560) : ∃ hF, fL_law xs L sa zh0 = some (1, hF) ∧ zn hF ≤ 600000 ∧ zs hF ≤ 7302250 := zpure_of inv0 xs L sa hL
