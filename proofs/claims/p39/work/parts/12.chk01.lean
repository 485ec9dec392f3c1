theorem mi_g_50 : mi_cka 50 64 = true := by decide +kernel
theorem mi_g_64 : mi_cka 64 74 = true := by decide +kernel
theorem mi_g_74 : mi_cka 74 83 = true := by decide +kernel
theorem mi_g_83 : mi_cka 83 90 = true := by decide +kernel
theorem mi_g_90 : mi_cka 90 103 = true := by decide +kernel
