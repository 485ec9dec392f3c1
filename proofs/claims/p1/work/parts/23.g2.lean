theorem eu_g1 : eok mi_P 6 60 (estop eUg2) 12000 eUg1 = true := by decide +kernel
