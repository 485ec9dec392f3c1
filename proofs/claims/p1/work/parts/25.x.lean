theorem eL0 : eok mi_P 0 60 (fun _ => false) 5000 est0 = true := by decide +kernel
theorem eL1 : eok mi_P 1 60 (fun _ => false) 5000 est0 = true := by decide +kernel
theorem eL2 : eok mi_P 2 60 (fun _ => false) 5000 est0 = true := by decide +kernel
theorem eL3 : eok mi_P 3 60 (fun _ => false) 5000 est0 = true := by decide +kernel
theorem eL4 : eok mi_P 4 60 (fun _ => false) 5000 est0 = true := by decide +kernel
theorem eL5 : eok mi_P 5 60 (fun _ => false) 5000 est0 = true := by decide +kernel
