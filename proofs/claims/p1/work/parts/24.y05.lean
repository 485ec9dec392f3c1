theorem es_y5 : (List.range' 125 25).all eSYc = true := by decide +kernel
