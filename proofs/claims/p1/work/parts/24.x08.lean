theorem es_x8 : (List.range' 200 25).all eSXc = true := by decide +kernel
