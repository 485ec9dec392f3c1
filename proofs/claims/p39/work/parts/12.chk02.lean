theorem mi_g_103 : mi_cka 103 116 = true := by decide +kernel
theorem mi_g_116 : mi_cka 116 131 = true := by decide +kernel
theorem mi_g_131 : mi_cka 131 138 = true := by decide +kernel
theorem mi_g_138 : mi_cka 138 146 = true := by decide +kernel
theorem mi_g_146 : mi_cka 146 160 = true := by decide +kernel
