/-! still owed -/
theorem op_bySteps {x : SX8} {y : SX9} (h : Rel x y) (a b n c : Int32) : OpL (fX8_bySteps x a b n c) (fX9_bySteps y a b n c) := sorry
