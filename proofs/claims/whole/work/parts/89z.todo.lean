/-! still owed -/
theorem op_says {x : SX8} {y : SX9} (h : Rel x y) (a b i : Int32) : OpI (fX8_says x a b i) (fX9_says y a b i) := sorry
theorem op_bySteps {x : SX8} {y : SX9} (h : Rel x y) (a b n c : Int32) : OpL (fX8_bySteps x a b n c) (fX9_bySteps y a b n c) := sorry
