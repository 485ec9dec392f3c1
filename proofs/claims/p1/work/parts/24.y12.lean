theorem es_y12 : (List.range' 300 1).all eSYc = true := by decide +kernel
