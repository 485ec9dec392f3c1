theorem es_y7 : (List.range' 175 25).all eSYc = true := by decide +kernel
