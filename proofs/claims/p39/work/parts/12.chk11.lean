theorem mi_plains : mi_cnames.all plainName = true := by decide +kernel
