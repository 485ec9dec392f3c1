/-! every run of the law ends, and answers 1 -/
section EFN
variable {xs : Nat → Int32}
theorem eG_all {P : mP} {S : Nat × (Nat → Int32)} {D : Nat} {s : eS} (i : Nat) (ivs : List (Nat × Nat)) (hc : ∀ x, x < 4294967296 → ∃ iv ∈ ivs, iv.1 ≤ x ∧ x ≤ iv.2) (h : ∀ iv ∈ ivs, eG P S D (eset1 s i iv)) : eG P S D s := by
  intro fs hp hr
  obtain ⟨r1, r2, r3⟩ := hr
  obtain ⟨iv, hm, h1, h2⟩ := hc (eb (erho S.2 i)) (eb_lt _)
  exact h iv hm fs hp ⟨r1, r2, eEv_set r3 h1 h2⟩
theorem eOps_ok {n j : Nat} {js : List Nat} {s : eS} (h : eOps n js = true) (hj : j ∈ js) (hs : eSu[j]? = some s) : eG mi_P (6, xs) 60 s := by
  have h1 : eOp n j = true := List.all_eq_true.mp h j hj
  unfold eOp at h1
  rw [hs] at h1
  exact eok_no (S := (6, xs)) h1
theorem eOpE_ok {n j : Nat} {iv : Nat × Nat} {s : eS} (h : eOpE n j iv = true) (hs : eSu[j]? = some s) : eG mi_P (6, xs) 60 (eset1 s 1 iv) := by
  unfold eOpE at h
  rw [hs] at h
  exact eok_no (S := (6, xs)) h
theorem eOpS_ok {n j : Nat} {iv : Nat × Nat} {s F : eS} (h : eOpS (estop F) n j iv = true) (hF : eG mi_P (6, xs) 60 F) (hs : eSu[j]? = some s) : eG mi_P (6, xs) 60 (eset1 s 1 iv) := by
  unfold eOpS at h
  rw [hs] at h
  exact eok_ok (S := (6, xs)) (fun s q => estop_ok q hF) n _ h
theorem eto {n : Nat} {s F : eS} (h : eok mi_P 6 60 (estop F) n s = true) (hF : eG mi_P (6, xs) 60 F) : eG mi_P (6, xs) 60 s := eok_ok (S := (6, xs)) (fun s q => estop_ok q hF) n s h
theorem eend {n : Nat} {s : eS} (h : eok mi_P 6 60 (fun _ => false) n s = true) : eG mi_P (6, xs) 60 s := eok_no (S := (6, xs)) h
theorem gu_f : eG mi_P (6, xs) 60 eUf0 := eto eu_f0 (eto eu_f1 (eend eu_f2))
theorem gu_g : eG mi_P (6, xs) 60 eUg0 := eto eu_g0 (eto eu_g1 (eend eu_g2))
theorem gu_h : eG mi_P (6, xs) 60 eUh0 := eto eu_h0 (eto eu_h1 (eend eu_h2))
theorem gv_2 : eG mi_P (6, xs) 60 eV2_0 := eto ev_2_0 (eto ev_2_1 (eend ev_2_2))
theorem gv_3 : eG mi_P (6, xs) 60 eV3_0 := eto ev_3_0 (eto ev_3_1 (eto ev_3_2 (eto ev_3_3 (eto ev_3_4 (eto ev_3_5 (eto ev_3_6 (eto ev_3_7 (eto ev_3_8 (eend ev_3_9)))))))))
theorem gv_4 : eG mi_P (6, xs) 60 eV4_0 := eto ev_4_0 (eto ev_4_1 (eto ev_4_2 (eto ev_4_3 (eto ev_4_4 (eto ev_4_5 (eto ev_4_6 (eto ev_4_7 (eto ev_4_8 (eto ev_4_9 (eto ev_4_10 (eto ev_4_11 (eto ev_4_12 (eto ev_4_13 (eto ev_4_14 (eto ev_4_15 (eto ev_4_16 (eto ev_4_17 (eto ev_4_18 (eto ev_4_19 (eto ev_4_20 (eto ev_4_21 (eto ev_4_22 (eto ev_4_23 (eto ev_4_24 (eto ev_4_25 (eto ev_4_26 (eto ev_4_27 (eto ev_4_28 (eto ev_4_29 (eto ev_4_30 (eto ev_4_31 (eto ev_4_32 (eend ev_4_33)))))))))))))))))))))))))))))))))
theorem es_x : ∀ k, k ≤ 300 → eSXc k = true := by
  intro k hk
  have hr : ∀ a n, (List.range' a n).all eSXc = true → a ≤ k → k < a + n → eSXc k = true := fun a n h h1 h2 => List.all_eq_true.mp h k (List.mem_range'_1.mpr ⟨h1, h2⟩)
  rcases Nat.lt_or_ge k 25 with q | q
  · exact hr 0 25 es_x0 (by omega) (by omega)
  rcases Nat.lt_or_ge k 50 with q | q
  · exact hr 25 25 es_x1 (by omega) (by omega)
  rcases Nat.lt_or_ge k 75 with q | q
  · exact hr 50 25 es_x2 (by omega) (by omega)
  rcases Nat.lt_or_ge k 100 with q | q
  · exact hr 75 25 es_x3 (by omega) (by omega)
  rcases Nat.lt_or_ge k 125 with q | q
  · exact hr 100 25 es_x4 (by omega) (by omega)
  rcases Nat.lt_or_ge k 150 with q | q
  · exact hr 125 25 es_x5 (by omega) (by omega)
  rcases Nat.lt_or_ge k 175 with q | q
  · exact hr 150 25 es_x6 (by omega) (by omega)
  rcases Nat.lt_or_ge k 200 with q | q
  · exact hr 175 25 es_x7 (by omega) (by omega)
  rcases Nat.lt_or_ge k 225 with q | q
  · exact hr 200 25 es_x8 (by omega) (by omega)
  rcases Nat.lt_or_ge k 250 with q | q
  · exact hr 225 25 es_x9 (by omega) (by omega)
  rcases Nat.lt_or_ge k 275 with q | q
  · exact hr 250 25 es_x10 (by omega) (by omega)
  rcases Nat.lt_or_ge k 300 with q | q
  · exact hr 275 25 es_x11 (by omega) (by omega)
  exact hr 300 1 es_x12 (by omega) (by omega)
theorem es_y : ∀ k, k ≤ 300 → eSYc k = true := by
  intro k hk
  have hr : ∀ a n, (List.range' a n).all eSYc = true → a ≤ k → k < a + n → eSYc k = true := fun a n h h1 h2 => List.all_eq_true.mp h k (List.mem_range'_1.mpr ⟨h1, h2⟩)
  rcases Nat.lt_or_ge k 25 with q | q
  · exact hr 0 25 es_y0 (by omega) (by omega)
  rcases Nat.lt_or_ge k 50 with q | q
  · exact hr 25 25 es_y1 (by omega) (by omega)
  rcases Nat.lt_or_ge k 75 with q | q
  · exact hr 50 25 es_y2 (by omega) (by omega)
  rcases Nat.lt_or_ge k 100 with q | q
  · exact hr 75 25 es_y3 (by omega) (by omega)
  rcases Nat.lt_or_ge k 125 with q | q
  · exact hr 100 25 es_y4 (by omega) (by omega)
  rcases Nat.lt_or_ge k 150 with q | q
  · exact hr 125 25 es_y5 (by omega) (by omega)
  rcases Nat.lt_or_ge k 175 with q | q
  · exact hr 150 25 es_y6 (by omega) (by omega)
  rcases Nat.lt_or_ge k 200 with q | q
  · exact hr 175 25 es_y7 (by omega) (by omega)
  rcases Nat.lt_or_ge k 225 with q | q
  · exact hr 200 25 es_y8 (by omega) (by omega)
  rcases Nat.lt_or_ge k 250 with q | q
  · exact hr 225 25 es_y9 (by omega) (by omega)
  rcases Nat.lt_or_ge k 275 with q | q
  · exact hr 250 25 es_y10 (by omega) (by omega)
  rcases Nat.lt_or_ge k 300 with q | q
  · exact hr 275 25 es_y11 (by omega) (by omega)
  exact hr 300 1 es_y12 (by omega) (by omega)
theorem gs_Y : ∀ j, j ≤ 301 → eG mi_P (6, xs) 60 (eSY (301 - j))
  | 0, _ => fun fs h hr => by
    have := hr.2.2 1 (301 + 2147483648) 2147483948 rfl
    omega
  | j + 1, hj => by
    have h1 := es_y (301 - (j + 1)) (by omega)
    have h2 := gs_Y j (by omega)
    rw [show 301 - j = 301 - (j + 1) + 1 by omega] at h2
    exact eok_ok (S := (6, xs)) (fun s q => estop_ok q h2) 500 _ h1
theorem gs_E : eG mi_P (6, xs) 60 eSE := eto es_E (gs_Y 301 (Nat.le_refl _))
theorem gs_X : ∀ j, j ≤ 301 → eG mi_P (6, xs) 60 (eSX (301 - j))
  | 0, _ => fun fs h hr => by
    have := hr.2.2 1 (301 + 2147483648) 2147483948 rfl
    omega
  | j + 1, hj => by
    have h1 := es_x (301 - (j + 1)) (by omega)
    have h2 := gs_X j (by omega)
    rw [show 301 - j = 301 - (j + 1) + 1 by omega] at h2
    refine eok_ok (S := (6, xs)) (fun s q => ?_) 500 _ h1
    simp only [Bool.or_eq_true] at q
    rcases q with q | q
    · exact estop_ok q h2
    · exact estop_ok q gs_E
theorem g_sec {s : eS} (hs : eSu[9]? = some s) : eG mi_P (6, xs) 60 s := by
  have h0 := eop_s0
  simp only [Bool.and_eq_true] at h0
  refine eG_all 1 [(0, 2147483647), (2147483648, 2147483948), (2147483949, 4294967295)] (fun x hx => ?_) (fun iv hm => ?_)
  · rcases Nat.lt_or_ge x 2147483648 with q | q
    · exact ⟨(0, 2147483647), by simp, by simp, by simp; omega⟩
    · rcases Nat.lt_or_ge x 2147483949 with q' | q'
      · exact ⟨(2147483648, 2147483948), by simp, q, by simp; omega⟩
      · exact ⟨(2147483949, 4294967295), by simp, q', by simp; omega⟩
  · simp only [List.mem_cons, List.not_mem_nil, or_false] at hm
    rcases hm with rfl | rfl | rfl
    · exact eOpE_ok h0.1 hs
    · exact eOpS_ok eo_sec (gs_X 301 (Nat.le_refl _)) hs
    · exact eOpE_ok h0.2 hs
theorem g_spr {s : eS} (hs : eSu[29]? = some s) : eG mi_P (6, xs) 60 s := by
  have h0 := eop_i
  simp only [Bool.and_eq_true] at h0
  refine eG_all 1 [(0, 2147483647), (2147483648, 2147483648), (2147483649, 2147483649), (2147483650, 2147483650), (2147483651, 4294967295)] (fun x hx => ?_) (fun iv hm => ?_)
  · rcases Nat.lt_or_ge x 2147483648 with q | q
    · exact ⟨(0, 2147483647), by simp, by simp, by simp; omega⟩
    · rcases Nat.lt_or_ge x 2147483651 with q' | q'
      · exact ⟨(x, x), by simp only [List.mem_cons, Prod.mk.injEq]; omega, Nat.le_refl _, Nat.le_refl _⟩
      · exact ⟨(2147483651, 4294967295), by simp, q', by simp; omega⟩
  · simp only [List.mem_cons, List.not_mem_nil, or_false] at hm
    rcases hm with rfl | rfl | rfl | rfl | rfl
    · exact eOpE_ok h0.1 hs
    · exact eOpS_ok eu_f gu_f hs
    · exact eOpS_ok eu_g gu_g hs
    · exact eOpS_ok eu_h gu_h hs
    · exact eOpE_ok h0.2 hs
theorem g_vei {s : eS} (hs : eSu[32]? = some s) : eG mi_P (6, xs) 60 s := by
  have h0 := ev_0
  simp only [Bool.and_eq_true] at h0
  refine eG_all 1 [(0, 2147483648), (2147483649, 2147483649), (2147483650, 2147483650), (2147483651, 2147483651), (2147483652, 2147483652), (2147483653, 4294967295)] (fun x hx => ?_) (fun iv hm => ?_)
  · rcases Nat.lt_or_ge x 2147483649 with q | q
    · exact ⟨(0, 2147483648), by simp, by simp, by simp; omega⟩
    · rcases Nat.lt_or_ge x 2147483653 with q' | q'
      · exact ⟨(x, x), by simp only [List.mem_cons, Prod.mk.injEq]; omega, Nat.le_refl _, Nat.le_refl _⟩
      · exact ⟨(2147483653, 4294967295), by simp, q', by simp; omega⟩
  · simp only [List.mem_cons, List.not_mem_nil, or_false] at hm
    rcases hm with rfl | rfl | rfl | rfl | rfl | rfl
    · exact eOpE_ok h0.1 hs
    · exact eOpE_ok ev_1 hs
    · exact eOpS_ok ev_2 gv_2 hs
    · exact eOpS_ok ev_3 gv_3 hs
    · exact eOpS_ok ev_4 gv_4 hs
    · exact eOpE_ok h0.2 hs
theorem g_T : eG mi_P (6, xs) 60 eT := by
  have h := eadv_T.2.1
  have hs : estep mi_P 6 60 eT = some eSu := by
    unfold eSu
    cases hh : estep mi_P 6 60 eT with
    | none => rw [hh] at h; cases h
    | some q => rfl
  refine esound (S := (6, xs)) hs fun s hm => ?_
  obtain ⟨j, hj⟩ := List.mem_iff_getElem?.mp hm
  have hlt : j < 45 := by
    rw [← eadv_T.2.2]
    exact (List.getElem?_eq_some_iff.mp hj).1
  by_cases h9 : j = 9
  · subst h9; exact g_sec hj
  by_cases h29 : j = 29
  · subst h29; exact g_spr hj
  by_cases h32 : j = 32
  · subst h32; exact g_vei hj
  have hin : ∀ j, j < 45 → j ≠ 9 → j ≠ 29 → j ≠ 32 → j ∈ [0, 1, 2, 3, 4, 5, 6, 7, 8, 10, 11, 12, 13, 14, 15, 16] ∨ j ∈ [17] ∨ j ∈ [18, 19, 25, 26, 27, 28] ∨ j ∈ [20, 21, 22, 23, 24] ∨ j ∈ [30, 31, 33, 34, 35, 36, 37, 38, 39, 40, 41, 42, 43, 44] := by
    intro j
    simp only [List.mem_cons, List.not_mem_nil, or_false]
    omega
  rcases hin j hlt h9 h29 h32 with q | q | q | q | q
  · exact eOps_ok eop_a q hj
  · exact eOps_ok eop_b q hj
  · exact eOps_ok eop_c q hj
  · exact eOps_ok eop_d q hj
  · exact eOps_ok eop_e q hj
theorem g_0 : eG mi_P (6, xs) 60 est0 := by
  have h := eadv_T.1
  have hs : eadv mi_P 6 60 3894 est0 = some eT := by
    unfold eT
    cases hh : eadv mi_P 6 60 3894 est0 with
    | none => rw [hh] at h; cases h
    | some q => rfl
  exact eadv_ok (S := (6, xs)) 3894 est0 eT hs g_T
theorem emk_get (k : Nat) : ∀ d b, ((emk d b).get k).1 = 0
  | 0, b => rfl
  | d + 1, b => by
    have e1 : (emk (d + 1) b).get k = (Nat.ble (b + 2 ^ d) k).rec ((emk d b).get k) ((emk d (b + 2 ^ d)).get k) := rfl
    rw [e1]
    cases Nat.ble (b + 2 ^ d) k with
    | false => exact emk_get k d b
    | true => exact emk_get k d (b + 2 ^ d)
theorem eb_and (x : Int32) : 2147483648 ≤ eb (x &&& 63) ∧ eb (x &&& 63) ≤ 2147483711 := by
  have h1 := eb_int (x &&& 63)
  have h2 : (x &&& 63).toBitVec.toNat ≤ 63 := by
    rw [Int32.toBitVec_and, BitVec.toNat_and]
    exact Nat.and_le_right
  have h3 : (x &&& 63).toInt = ((x &&& 63).toBitVec.toNat : Int) := by
    show (x &&& 63).toBitVec.toInt = _
    rw [BitVec.toInt_eq_toNat_of_lt (by omega)]
  omega
theorem eRS_0 : eRS xs est0 [(0, 0, [(0, .ref 0)], [])] [] := by
  refine ⟨⟨[(0, .ref 0)], [], [], rfl, ⟨.ref 0, [], rfl, rfl, rfl⟩, rfl, rfl⟩, ⟨rfl, fun k ce hc => ?_⟩, fun i lo hi hq => ?_⟩
  · have h1 : eget (emk 9 0) k = some ce := hc
    unfold eget at h1
    rw [emk_get] at h1
    cases h1
  · have h1 := eb_lt (erho xs i)
    by_cases hi6 : i < 6
    · have hh : lo = 0 ∧ hi = 4294967295 := by
        have hq' : ([(0, 4294967295), (0, 4294967295), (0, 4294967295), (0, 4294967295), (0, 4294967295), (0, 4294967295), (2147483648, 2147483711), (2147483648, 2147483711), (2147483648, 2147483711), (2147483648, 2147483711), (2147483648, 2147483711), (2147483648, 2147483711)] : eEn)[i]? = some (lo, hi) := hq
        rcases i with _ | _ | _ | _ | _ | _ | i
        all_goals first
          | omega
          | (simp at hq'; omega)
      omega
    · by_cases hi12 : i < 12
      · have hh : lo = 2147483648 ∧ hi = 2147483711 := by
          have hq' : ([(0, 4294967295), (0, 4294967295), (0, 4294967295), (0, 4294967295), (0, 4294967295), (0, 4294967295), (2147483648, 2147483711), (2147483648, 2147483711), (2147483648, 2147483711), (2147483648, 2147483711), (2147483648, 2147483711), (2147483648, 2147483711)] : eEn)[i]? = some (lo, hi) := hq
          rcases i with _ | _ | _ | _ | _ | _ | _ | _ | _ | _ | _ | _ | i
          all_goals first
            | omega
            | (simp at hq'; omega)
        have h2 := eb_and (xs (i - 6))
        have h3 : erho xs i = xs (i - 6) &&& 63 := by unfold erho; rw [if_neg hi6, if_pos hi12]
        rw [h3]
        omega
      · have hq' : ([(0, 4294967295), (0, 4294967295), (0, 4294967295), (0, 4294967295), (0, 4294967295), (0, 4294967295), (2147483648, 2147483711), (2147483648, 2147483711), (2147483648, 2147483711), (2147483648, 2147483711), (2147483648, 2147483711), (2147483648, 2147483711)] : eEn)[i]? = some (lo, hi) := hq
        rw [List.getElem?_eq_none (by simp; omega)] at hq'
        cases hq'
/-- the law's run -/
theorem e_law (L : Nat) (hL : L ≤ 6) : mi_T mi_P (L, xs) 60 0 (0, [(0, .ref 0)], []) [] (fun r h => r = some (.int 1) ∧ h.length ≤ 600) := by
  have hg : eG mi_P (L, xs) 60 est0 := by
    rcases L with _ | _ | _ | _ | _ | _ | _ | L
    · exact eok_no (S := (0, xs)) eL0
    · exact eok_no (S := (1, xs)) eL1
    · exact eok_no (S := (2, xs)) eL2
    · exact eok_no (S := (3, xs)) eL3
    · exact eok_no (S := (4, xs)) eL4
    · exact eok_no (S := (5, xs)) eL5
    · exact g_0
    · omega
  exact hg _ _ eRS_0
end EFN
