theorem es_x7 : (List.range' 175 25).all eSXc = true := by decide +kernel
