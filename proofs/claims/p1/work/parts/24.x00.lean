theorem es_x0 : (List.range' 0 25).all eSXc = true := by decide +kernel
