theorem mi_g_160 : mi_cka 160 165 = true := by decide +kernel
theorem mi_g_165 : mi_cka 165 168 = true := by decide +kernel
theorem mi_g_168 : mi_cka 168 174 = true := by decide +kernel
theorem mi_g_174 : mi_cka 174 181 = true := by decide +kernel
theorem mi_g_181 : mi_cka 181 191 = true := by decide +kernel
