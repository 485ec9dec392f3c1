theorem eop_c : eOps 30000 [18, 19, 25, 26, 27, 28] = true := by decide +kernel
