theorem mi_g_226 : mi_cka 226 237 = true := by decide +kernel
theorem mi_g_237 : mi_cka 237 251 = true := by decide +kernel
theorem mi_g_251 : mi_cka 251 258 = true := by decide +kernel
theorem mi_g_258 : mi_cka 258 262 = true := by decide +kernel
theorem mi_g_262 : mi_cka 262 270 = true := by decide +kernel
