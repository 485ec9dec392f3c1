theorem eu_f2 : eok mi_P 6 60 (fun _ => false) 12000 eUf2 = true := by decide +kernel
