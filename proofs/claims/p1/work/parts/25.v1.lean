theorem ev_1 : eOpE 12000 32 (2147483649, 2147483649) = true := by decide +kernel
