theorem eop_e : eOps 30000 [30, 31, 33, 34, 35, 36, 37, 38, 39, 40, 41, 42, 43, 44] = true := by decide +kernel
