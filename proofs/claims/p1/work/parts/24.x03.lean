theorem es_x3 : (List.range' 75 25).all eSXc = true := by decide +kernel
