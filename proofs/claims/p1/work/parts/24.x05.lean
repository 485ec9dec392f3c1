theorem es_x5 : (List.range' 125 25).all eSXc = true := by decide +kernel
