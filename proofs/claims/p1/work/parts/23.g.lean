theorem eop_g : eOpE 60000 29 (2147483649, 2147483649) = true := by decide +kernel
