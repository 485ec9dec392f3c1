theorem ets_0 : eok mi_P 0 60 (fun _ => false) 5000 est0 = true := by decide +kernel
