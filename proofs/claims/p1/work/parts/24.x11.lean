theorem es_x11 : (List.range' 275 25).all eSXc = true := by decide +kernel
