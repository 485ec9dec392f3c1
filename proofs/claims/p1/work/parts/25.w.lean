theorem ev_0 : (eOpE 1000 32 (0, 2147483648) && eOpE 1000 32 (2147483653, 4294967295)) = true := by decide +kernel
