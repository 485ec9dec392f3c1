theorem eu_f0 : eok mi_P 6 60 (estop eUf1) 12000 eUf0 = true := by decide +kernel
