theorem eop_b : eOps 30000 [17] = true := by decide +kernel
