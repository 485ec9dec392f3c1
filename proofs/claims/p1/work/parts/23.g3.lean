theorem eu_g2 : eok mi_P 6 60 (fun _ => false) 12000 eUg2 = true := by decide +kernel
