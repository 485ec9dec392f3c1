theorem es_y9 : (List.range' 225 25).all eSYc = true := by decide +kernel
