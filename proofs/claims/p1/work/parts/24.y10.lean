theorem es_y10 : (List.range' 250 25).all eSYc = true := by decide +kernel
