theorem es_y4 : (List.range' 100 25).all eSYc = true := by decide +kernel
