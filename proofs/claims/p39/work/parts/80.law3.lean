theorem zlawG10 : ([522, 539, 556] : List Nat).all zLcs = true := by decide +kernel
theorem zlawG11 : ([603, 620, 637] : List Nat).all zLcs = true := by decide +kernel
theorem zlawG12 : ([684, 718, 755] : List Nat).all zLcs = true := by decide +kernel
theorem zlawG13 : ([782, 809, 826] : List Nat).all zLcs = true := by decide +kernel
theorem zlawG14 : ([843, 860] : List Nat).all zLcs = true := by decide +kernel
