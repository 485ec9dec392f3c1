theorem es_x10 : (List.range' 250 25).all eSXc = true := by decide +kernel
