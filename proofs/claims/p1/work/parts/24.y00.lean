theorem es_y0 : (List.range' 0 25).all eSYc = true := by decide +kernel
