theorem es_x9 : (List.range' 225 25).all eSXc = true := by decide +kernel
