theorem es_y11 : (List.range' 275 25).all eSYc = true := by decide +kernel
