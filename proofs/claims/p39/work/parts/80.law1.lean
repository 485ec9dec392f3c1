theorem zlawG0 : ([22, 79, 96] : List Nat).all zLcs = true := by decide +kernel
theorem zlawG1 : ([103, 120, 147] : List Nat).all zLcs = true := by decide +kernel
theorem zlawG2 : ([174, 191, 208] : List Nat).all zLcs = true := by decide +kernel
theorem zlawG3 : ([225, 242, 269] : List Nat).all zLcs = true := by decide +kernel
theorem zlawG4 : ([286, 293, 300] : List Nat).all zLcs = true := by decide +kernel
