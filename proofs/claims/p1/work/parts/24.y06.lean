theorem es_y6 : (List.range' 150 25).all eSYc = true := by decide +kernel
