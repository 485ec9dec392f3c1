theorem eop_h : eOpE 60000 29 (2147483650, 2147483650) = true := by decide +kernel
