theorem es_y2 : (List.range' 50 25).all eSYc = true := by decide +kernel
