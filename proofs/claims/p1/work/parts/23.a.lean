theorem eop_a : eOps 30000 [0, 1, 2, 3, 4, 5, 6, 7, 8, 10, 11, 12, 13, 14, 15, 16] = true := by decide +kernel
