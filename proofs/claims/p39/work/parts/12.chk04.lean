theorem mi_g_191 : mi_cka 191 196 = true := by decide +kernel
theorem mi_g_196 : mi_cka 196 204 = true := by decide +kernel
theorem mi_g_204 : mi_cka 204 213 = true := by decide +kernel
theorem mi_g_213 : mi_cka 213 219 = true := by decide +kernel
theorem mi_g_219 : mi_cka 219 226 = true := by decide +kernel
