theorem es_y1 : (List.range' 25 25).all eSYc = true := by decide +kernel
