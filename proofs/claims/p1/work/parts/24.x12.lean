theorem es_x12 : (List.range' 300 1).all eSXc = true := by decide +kernel
