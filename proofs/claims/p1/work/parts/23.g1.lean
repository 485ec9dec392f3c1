theorem eu_g0 : eok mi_P 6 60 (estop eUg1) 12000 eUg0 = true := by decide +kernel
