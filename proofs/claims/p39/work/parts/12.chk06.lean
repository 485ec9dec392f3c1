theorem mi_g_270 : mi_cka 270 276 = true := by decide +kernel
theorem mi_g_276 : mi_cka 276 290 = true := by decide +kernel
theorem mi_gl_0 : mi_ckr 0 0 100 = true := by decide +kernel
theorem mi_gl_100 : mi_ckr 0 100 200 = true := by decide +kernel
theorem mi_gl_200 : mi_ckr 0 200 300 = true := by decide +kernel
theorem mi_gl_300 : mi_ckr 0 300 400 = true := by decide +kernel
theorem mi_gl_400 : mi_ckr 0 400 500 = true := by decide +kernel
theorem mi_gl_500 : mi_ckr 0 500 600 = true := by decide +kernel
theorem mi_gl_600 : mi_ckr 0 600 700 = true := by decide +kernel
theorem mi_gl_700 : mi_ckr 0 700 800 = true := by decide +kernel
theorem mi_gl_800 : mi_ckr 0 800 864 = true := by decide +kernel
theorem mi_gc_1 : mi_ckca 1 13 = true := by decide +kernel
