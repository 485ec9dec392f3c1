theorem zlawG5 : ([307, 314, 331] : List Nat).all zLcs = true := by decide +kernel
theorem zlawG6 : ([358, 375, 382] : List Nat).all zLcs = true := by decide +kernel
theorem zlawG7 : ([389, 396, 413] : List Nat).all zLcs = true := by decide +kernel
theorem zlawG8 : ([420, 437, 454] : List Nat).all zLcs = true := by decide +kernel
theorem zlawG9 : ([471, 488, 505] : List Nat).all zLcs = true := by decide +kernel
