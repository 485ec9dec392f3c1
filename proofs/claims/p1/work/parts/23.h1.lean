theorem eu_h0 : eok mi_P 6 60 (estop eUh1) 12000 eUh0 = true := by decide +kernel
