theorem eu_h1 : eok mi_P 6 60 (estop eUh2) 12000 eUh1 = true := by decide +kernel
