theorem es_y8 : (List.range' 200 25).all eSYc = true := by decide +kernel
