theorem eu_f1 : eok mi_P 6 60 (estop eUf2) 12000 eUf1 = true := by decide +kernel
