theorem mi_gc_157 : mi_ckca 157 169 = true := by decide +kernel
theorem mi_gc_169 : mi_ckca 169 181 = true := by decide +kernel
theorem mi_gc_181 : mi_ckca 181 193 = true := by decide +kernel
theorem mi_gc_193 : mi_ckca 193 205 = true := by decide +kernel
theorem mi_gc_205 : mi_ckca 205 217 = true := by decide +kernel
theorem mi_gc_217 : mi_ckca 217 229 = true := by decide +kernel
