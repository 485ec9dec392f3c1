theorem eop_d : eOps 30000 [20, 21, 22, 23, 24] = true := by decide +kernel
