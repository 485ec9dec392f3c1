theorem mi_gc_229 : mi_ckca 229 241 = true := by decide +kernel
theorem mi_gc_241 : mi_ckca 241 253 = true := by decide +kernel
theorem mi_gc_253 : mi_ckca 253 265 = true := by decide +kernel
theorem mi_gc_265 : mi_ckca 265 277 = true := by decide +kernel
theorem mi_gc_277 : mi_ckca 277 289 = true := by decide +kernel
theorem mi_gc_289 : mi_ckca 289 290 = true := by decide +kernel
