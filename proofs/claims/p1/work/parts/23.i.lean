theorem eop_i : (eOpE 100 29 (0, 2147483647) && eOpE 100 29 (2147483651, 4294967295)) = true := by decide +kernel
theorem eop_s0 : (eOpE 1000 9 (0, 2147483647) && eOpE 1000 9 (2147483949, 4294967295)) = true := by decide +kernel
