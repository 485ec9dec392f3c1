theorem mi_gc_13 : mi_ckca 13 25 = true := by decide +kernel
theorem mi_gc_25 : mi_ckca 25 37 = true := by decide +kernel
theorem mi_gc_37 : mi_ckca 37 49 = true := by decide +kernel
theorem mi_gc_49 : mi_ckca 49 61 = true := by decide +kernel
theorem mi_gc_61 : mi_ckca 61 73 = true := by decide +kernel
theorem mi_gc_73 : mi_ckca 73 85 = true := by decide +kernel
