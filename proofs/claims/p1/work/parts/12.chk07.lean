theorem mi_gc_121 : mi_ckca 121 161 = true := by decide +kernel
theorem mi_gc_161 : mi_ckca 161 201 = true := by decide +kernel
theorem mi_gc_201 : mi_ckca 201 241 = true := by decide +kernel
theorem mi_gc_241 : mi_ckca 241 278 = true := by decide +kernel
