theorem es_x6 : (List.range' 150 25).all eSXc = true := by decide +kernel
