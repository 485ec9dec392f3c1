theorem mi_g_1 : mi_cka 1 13 = true := by decide +kernel
theorem mi_g_13 : mi_cka 13 24 = true := by decide +kernel
theorem mi_g_24 : mi_cka 24 33 = true := by decide +kernel
theorem mi_g_33 : mi_cka 33 43 = true := by decide +kernel
theorem mi_g_43 : mi_cka 43 50 = true := by decide +kernel
