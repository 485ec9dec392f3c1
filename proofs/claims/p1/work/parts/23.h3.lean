theorem eu_h2 : eok mi_P 6 60 (fun _ => false) 12000 eUh2 = true := by decide +kernel
