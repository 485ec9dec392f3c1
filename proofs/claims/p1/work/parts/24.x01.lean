theorem es_x1 : (List.range' 25 25).all eSXc = true := by decide +kernel
