/-! the program is the machine's -/
theorem mi_cka_at {a b no : Nat} (h : mi_cka a b = true) (h1 : a ≤ no) (h2 : no < b) : mi_ckm no = true := by
  have := List.all_eq_true.mp h (no - a) (List.mem_range.mpr (by omega))
  rw [show a + (no - a) = no by omega] at this
  exact this
theorem mi_ckr_at {no a b n : Nat} (h : mi_ckr no a b = true) (h1 : a ≤ n) (h2 : n < b) : mi_ck1 no n = true := by
  have := List.all_eq_true.mp h (n - a) (List.mem_range.mpr (by omega))
  rw [show a + (n - a) = n by omega] at this
  exact this
theorem mi_ckca_at {a b no : Nat} (h : mi_ckca a b = true) (h1 : a ≤ no) (h2 : no < b) : mi_ckc no = true := by
  have := List.all_eq_true.mp h (no - a) (List.mem_range.mpr (by omega))
  rw [show a + (no - a) = no by omega] at this
  exact this
theorem mi_law_n : (mi_P.get 0).1 = 864 := by decide +kernel
theorem mi_all1 (no n : Nat) (hno : no < mi_NM) (hn : n < (mi_P.get no).1) : mi_ck1 no n = true := by
  have hN : no < 290 := hno
  by_cases h0 : no = 0
  · subst h0
    rw [mi_law_n] at hn
    by_cases q0 : n < 100
    · exact mi_ckr_at mi_gl_0 (by omega) q0
    by_cases q100 : n < 200
    · exact mi_ckr_at mi_gl_100 (by omega) q100
    by_cases q200 : n < 300
    · exact mi_ckr_at mi_gl_200 (by omega) q200
    by_cases q300 : n < 400
    · exact mi_ckr_at mi_gl_300 (by omega) q300
    by_cases q400 : n < 500
    · exact mi_ckr_at mi_gl_400 (by omega) q400
    by_cases q500 : n < 600
    · exact mi_ckr_at mi_gl_500 (by omega) q500
    by_cases q600 : n < 700
    · exact mi_ckr_at mi_gl_600 (by omega) q600
    by_cases q700 : n < 800
    · exact mi_ckr_at mi_gl_700 (by omega) q700
    by_cases q800 : n < 864
    · exact mi_ckr_at mi_gl_800 (by omega) q800
    omega
  by_cases q1 : no < 13
  · exact mi_ckr_at (mi_cka_at mi_g_1 (by omega) q1) (Nat.zero_le n) hn
  by_cases q13 : no < 24
  · exact mi_ckr_at (mi_cka_at mi_g_13 (by omega) q13) (Nat.zero_le n) hn
  by_cases q24 : no < 33
  · exact mi_ckr_at (mi_cka_at mi_g_24 (by omega) q24) (Nat.zero_le n) hn
  by_cases q33 : no < 43
  · exact mi_ckr_at (mi_cka_at mi_g_33 (by omega) q33) (Nat.zero_le n) hn
  by_cases q43 : no < 50
  · exact mi_ckr_at (mi_cka_at mi_g_43 (by omega) q43) (Nat.zero_le n) hn
  by_cases q50 : no < 64
  · exact mi_ckr_at (mi_cka_at mi_g_50 (by omega) q50) (Nat.zero_le n) hn
  by_cases q64 : no < 74
  · exact mi_ckr_at (mi_cka_at mi_g_64 (by omega) q64) (Nat.zero_le n) hn
  by_cases q74 : no < 83
  · exact mi_ckr_at (mi_cka_at mi_g_74 (by omega) q74) (Nat.zero_le n) hn
  by_cases q83 : no < 90
  · exact mi_ckr_at (mi_cka_at mi_g_83 (by omega) q83) (Nat.zero_le n) hn
  by_cases q90 : no < 103
  · exact mi_ckr_at (mi_cka_at mi_g_90 (by omega) q90) (Nat.zero_le n) hn
  by_cases q103 : no < 116
  · exact mi_ckr_at (mi_cka_at mi_g_103 (by omega) q103) (Nat.zero_le n) hn
  by_cases q116 : no < 131
  · exact mi_ckr_at (mi_cka_at mi_g_116 (by omega) q116) (Nat.zero_le n) hn
  by_cases q131 : no < 138
  · exact mi_ckr_at (mi_cka_at mi_g_131 (by omega) q131) (Nat.zero_le n) hn
  by_cases q138 : no < 146
  · exact mi_ckr_at (mi_cka_at mi_g_138 (by omega) q138) (Nat.zero_le n) hn
  by_cases q146 : no < 160
  · exact mi_ckr_at (mi_cka_at mi_g_146 (by omega) q146) (Nat.zero_le n) hn
  by_cases q160 : no < 165
  · exact mi_ckr_at (mi_cka_at mi_g_160 (by omega) q160) (Nat.zero_le n) hn
  by_cases q165 : no < 168
  · exact mi_ckr_at (mi_cka_at mi_g_165 (by omega) q165) (Nat.zero_le n) hn
  by_cases q168 : no < 174
  · exact mi_ckr_at (mi_cka_at mi_g_168 (by omega) q168) (Nat.zero_le n) hn
  by_cases q174 : no < 181
  · exact mi_ckr_at (mi_cka_at mi_g_174 (by omega) q174) (Nat.zero_le n) hn
  by_cases q181 : no < 191
  · exact mi_ckr_at (mi_cka_at mi_g_181 (by omega) q181) (Nat.zero_le n) hn
  by_cases q191 : no < 196
  · exact mi_ckr_at (mi_cka_at mi_g_191 (by omega) q191) (Nat.zero_le n) hn
  by_cases q196 : no < 204
  · exact mi_ckr_at (mi_cka_at mi_g_196 (by omega) q196) (Nat.zero_le n) hn
  by_cases q204 : no < 213
  · exact mi_ckr_at (mi_cka_at mi_g_204 (by omega) q204) (Nat.zero_le n) hn
  by_cases q213 : no < 219
  · exact mi_ckr_at (mi_cka_at mi_g_213 (by omega) q213) (Nat.zero_le n) hn
  by_cases q219 : no < 226
  · exact mi_ckr_at (mi_cka_at mi_g_219 (by omega) q219) (Nat.zero_le n) hn
  by_cases q226 : no < 237
  · exact mi_ckr_at (mi_cka_at mi_g_226 (by omega) q226) (Nat.zero_le n) hn
  by_cases q237 : no < 251
  · exact mi_ckr_at (mi_cka_at mi_g_237 (by omega) q237) (Nat.zero_le n) hn
  by_cases q251 : no < 258
  · exact mi_ckr_at (mi_cka_at mi_g_251 (by omega) q251) (Nat.zero_le n) hn
  by_cases q258 : no < 262
  · exact mi_ckr_at (mi_cka_at mi_g_258 (by omega) q258) (Nat.zero_le n) hn
  by_cases q262 : no < 270
  · exact mi_ckr_at (mi_cka_at mi_g_262 (by omega) q262) (Nat.zero_le n) hn
  by_cases q270 : no < 276
  · exact mi_ckr_at (mi_cka_at mi_g_270 (by omega) q270) (Nat.zero_le n) hn
  by_cases q276 : no < 290
  · exact mi_ckr_at (mi_cka_at mi_g_276 (by omega) q276) (Nat.zero_le n) hn
  omega
theorem mi_allc (no : Nat) (hno : no < mi_NM) (h0 : no ≠ 0) : mi_ckc no = true := by
  have hN : no < 290 := hno
  by_cases q1 : no < 13
  · exact mi_ckca_at mi_gc_1 (by omega) q1
  by_cases q13 : no < 25
  · exact mi_ckca_at mi_gc_13 (by omega) q13
  by_cases q25 : no < 37
  · exact mi_ckca_at mi_gc_25 (by omega) q25
  by_cases q37 : no < 49
  · exact mi_ckca_at mi_gc_37 (by omega) q37
  by_cases q49 : no < 61
  · exact mi_ckca_at mi_gc_49 (by omega) q49
  by_cases q61 : no < 73
  · exact mi_ckca_at mi_gc_61 (by omega) q61
  by_cases q73 : no < 85
  · exact mi_ckca_at mi_gc_73 (by omega) q73
  by_cases q85 : no < 97
  · exact mi_ckca_at mi_gc_85 (by omega) q85
  by_cases q97 : no < 109
  · exact mi_ckca_at mi_gc_97 (by omega) q97
  by_cases q109 : no < 121
  · exact mi_ckca_at mi_gc_109 (by omega) q109
  by_cases q121 : no < 133
  · exact mi_ckca_at mi_gc_121 (by omega) q121
  by_cases q133 : no < 145
  · exact mi_ckca_at mi_gc_133 (by omega) q133
  by_cases q145 : no < 157
  · exact mi_ckca_at mi_gc_145 (by omega) q145
  by_cases q157 : no < 169
  · exact mi_ckca_at mi_gc_157 (by omega) q157
  by_cases q169 : no < 181
  · exact mi_ckca_at mi_gc_169 (by omega) q169
  by_cases q181 : no < 193
  · exact mi_ckca_at mi_gc_181 (by omega) q181
  by_cases q193 : no < 205
  · exact mi_ckca_at mi_gc_193 (by omega) q193
  by_cases q205 : no < 217
  · exact mi_ckca_at mi_gc_205 (by omega) q205
  by_cases q217 : no < 229
  · exact mi_ckca_at mi_gc_217 (by omega) q217
  by_cases q229 : no < 241
  · exact mi_ckca_at mi_gc_229 (by omega) q229
  by_cases q241 : no < 253
  · exact mi_ckca_at mi_gc_241 (by omega) q241
  by_cases q253 : no < 265
  · exact mi_ckca_at mi_gc_253 (by omega) q253
  by_cases q265 : no < 277
  · exact mi_ckca_at mi_gc_265 (by omega) q265
  by_cases q277 : no < 289
  · exact mi_ckca_at mi_gc_277 (by omega) q277
  by_cases q289 : no < 290
  · exact mi_ckca_at mi_gc_289 (by omega) q289
  omega
theorem mi_rp0 : mi_RP 0 0 = 0 := by decide +kernel
theorem mi_has_mem {i : Nat} {w : Cond} (h : mi_has_w i w = true) : w ∈ mi_tb := by
  simp only [mi_has_w, Bool.and_eq_true, decide_eq_true_eq] at h
  exact mi_tbw h.1 h.2
theorem mi_is_good : mi_good mi_P mi_MD mi_RP mi_NM := by
  refine ⟨fun no hno => ?_, fun no hno h0 => ?_, fun no n hno hn => ?_⟩
  · by_cases h0 : no = 0
    · subst h0; exact mi_rp0
    · have h := mi_allc no hno h0
      unfold mi_ckc at h
      simp only [Bool.and_eq_true, decide_eq_true_eq] at h
      exact h.2.2.2.2.2.2.2.2.2.2.2.2.2.2
  · have h := mi_allc no hno h0
    unfold mi_ckc at h
    simp only [Bool.and_eq_true] at h
    obtain ⟨a1, a2, a3, a4, a5, a6, a7, a8, a9, a10, a11, a12, a13, a14, -⟩ := h
    simp only [decide_eq_true_eq] at a6 a8 a9 a11 a12 a13 a14
    refine ⟨mi_has_mem a1, mi_has_mem a2, fun q => ?_, fun q => ?_, fun q => ?_, fun q => ?_, a6, fun q => ?_, fun q => ?_, a8, a9, List.all_eq_true.mp mi_plains _ (List.contains_iff_mem.mp a10), a11, a12, a13, a14⟩
    · rw [if_pos q] at a3; exact mi_has_mem a3
    · rw [if_neg q] at a3; exact mi_has_mem a3
    · rw [if_pos q] at a4; exact mi_has_mem a4
    · rw [if_pos q] at a5
      simp only [Bool.and_eq_true, decide_eq_true_eq] at a5
      exact a5
    · rw [if_pos q] at a7
      simp only [Bool.and_eq_true, decide_eq_true_eq] at a7
      exact a7
    · rw [if_neg q] at a7
      simp only [Bool.and_eq_true, decide_eq_true_eq] at a7
      obtain ⟨b1, b2, b3⟩ := a7
      refine ⟨b1, ?_⟩
      rw [Bool.or_eq_true] at b3
      rcases b3 with b3 | b3
      · split at b3
        · rename_i C T N hc
          simp only [decide_eq_true_eq] at b3
          subst b3
          exact Or.inl ⟨(mi_P.get no).2.2.2.1 - 1, T, N, by omega, hc⟩
        · cases b3
      · simp only [Bool.and_eq_true, decide_eq_true_eq] at b3
        exact Or.inr b3
  · have h := mi_all1 no n hno hn
    unfold mi_ck1 at h
    split at h
    · rename_i ri len hd
      exact ⟨ri, len, mi_HI no n, hd, h⟩
    · cases h
