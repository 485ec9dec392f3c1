theorem es_x2 : (List.range' 50 25).all eSXc = true := by decide +kernel
