theorem mi_gc_85 : mi_ckca 85 97 = true := by decide +kernel
theorem mi_gc_97 : mi_ckca 97 109 = true := by decide +kernel
theorem mi_gc_109 : mi_ckca 109 121 = true := by decide +kernel
theorem mi_gc_121 : mi_ckca 121 133 = true := by decide +kernel
theorem mi_gc_133 : mi_ckca 133 145 = true := by decide +kernel
theorem mi_gc_145 : mi_ckca 145 157 = true := by decide +kernel
