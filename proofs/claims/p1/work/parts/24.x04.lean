theorem es_x4 : (List.range' 100 25).all eSXc = true := by decide +kernel
