theorem es_y3 : (List.range' 75 25).all eSYc = true := by decide +kernel
