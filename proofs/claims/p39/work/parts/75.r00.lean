/-- LModel.fails(II)V -/
def zw_3100 : zW := .leaf (470, [4, 5])
def zq_3100_0 : zPo := ([], [], [(469, [((4, []), .inr (.inr (.inr (.inl (1, 4))))), ((5, []), zaI)])], none)
def zp_3100 : List (zPo × List (Nat ⊕ (Nat × zL))) := [(zq_3100_0, [])]
def zc_3100 : zCt := (183, 0, [.inr (.inl 469), .inr (.inr (.inr (.inl (1, 4)))), zaI], [], [], .leaf (470, 112, 73, .inr 3, [((4, []), .inr (.inr (.inr (.inl (0, 4))))), ((5, []), zaI)]), zw_3100, [], zp_3100.map (fun p => p.1))
def zu_3100 : List zCu := []
def zs_3100 : List zCt := []
theorem za_3100 : zwin zw_3100 zc_3100.2.2.2.2.2.1 = true := by decide +kernel
def zd_3100 : zW := .leaf (470, [4, 5])
theorem zb_3100 : zwle zd_3100 zw_3100 = true := by decide +kernel
theorem z0_3100 : zst0 mi_P zd_3100 [] [] (fun d y as t en => zcal zw_3100 d y as t en zs_3100) zc_3100 zp_3100 zu_3100 218 = true := by decide +kernel
theorem zk_3100 : zu_3100.all (zck mi_P zc_3100.2.1 zd_3100 false [] [] (fun d y as t en => zcal zw_3100 d y as t en zs_3100) zc_3100.2.2.2.1.length zc_3100.2.2.2.1 zc_3100.2.2.2.2.2.1 zp_3100 zu_3100 218) = true := by decide +kernel
theorem zt_3100 {S : Nat × (Nat → Int32)} : zCtr mi_P S zTt zc_3100 := by
  have hc : ∀ c ∈ zs_3100, zCtr mi_P S zTt c := fun c hc => by cases hc
  exact zCtr_of2 (Om := zTt) (ct := zc_3100) (ps := zp_3100) (Wd := zd_3100) zb_3100 (fun _ _ _ _ => trivial) rfl hc za_3100 z0_3100 zk_3100
theorem zn_3100 {S : Nat × (Nat → Int32)} : zCtr mi_P S zOm2 zc_3100 := zOm2_F (by decide +kernel) (by decide +kernel) (by decide +kernel) zt_3100
/-- LModel.numeral(II)I -/
def zw_3101 : zW := .leaf (470, [4, 5, 6, 7, 8, 9, 10])
def zq_3101_0 : zPo := ([], [], [(469, [((4, []), .inr (.inr (.inr (.inl (1, 4))))), ((5, []), zaI), ((6, []), .inr (.inr (.inr (.inl (0, 1600))))), ((7, []), .inr (.inr (.inr (.inl (0, 1600))))), ((8, []), .inr (.inr (.inr (.inl (0, 5))))), ((9, []), zaI), ((10, []), .inr (.inr (.inr (.inr 0))))])], some (zaI))
def zq_3101_1 : zPo := ([(0, 1600), (0, 1600)], [(1, [(3, 1), (4, (-1))]), (0, [(2, (-1)), (4, 1)]), (1, [(1, 1), (4, (-1))]), (0, [(1, 1), (3, (-1))])], [(469, [((4, []), .inl (0, [])), ((5, []), zaI), ((6, []), .inl (0, [(3, 1)])), ((7, []), .inl (0, [(4, 1)])), ((8, []), .inr (.inr (.inr (.inl (1, 5))))), ((9, []), zaI), ((10, []), .inr (.inr (.inr (.inr 0))))])], some (zaI))
def zq_3101_2 : zPo := ([], [], [(469, [((4, []), .inl (0, [])), ((5, []), zaI), ((6, []), .inl (0, [(2, 1)])), ((7, []), .inl (0, [(2, 1)])), ((8, []), .inl (0, [])), ((9, []), zaI), ((10, []), .inr (.inr (.inr (.inr 0))))])], some (zaI))
def zp_3101 : List (zPo × List (Nat ⊕ (Nat × zL))) := [(zq_3101_0, []), (zq_3101_1, [.inr (469, (6, [])), .inr (469, (7, []))]), (zq_3101_2, [])]
def zc_3101 : zCt := (187, 2, [.inr (.inl 469), zaI, zaI], [(0, 1600), (0, 1600), (0, 1600)], [(1, [(0, 1), (1, (-1))]), (0, [(1, 1), (2, (-1))])], .branch 471 (.leaf (470, 112, 73, .inr 3, [((1, []), .inr (.inl 471)), ((3, []), .inl (0, [(2, 1)])), ((4, []), .inl (0, [])), ((5, []), zaI), ((6, []), .inl (0, [(0, 1)])), ((7, []), .inl (0, [(1, 1)])), ((8, []), .inr (.inr (.inr (.inl (1, 5))))), ((9, []), zaI), ((10, []), .inr (.inr (.inr (.inr 0))))])) (.leaf (472, 1, 1600, .inl ((-128), 127), [])), zw_3101, [.inr (469, (6, [])), .inr (469, (7, [])), .inr (469, (3, []))], zp_3101.map (fun p => p.1))
def zu_3101 : List zCu := []
def zs_3101 : List zCt := [zc_3100, zc_3003]
theorem za_3101 : zwin zw_3101 zc_3101.2.2.2.2.2.1 = true := by decide +kernel
def zd_3101 : zW := .leaf (0, [])
theorem zb_3101 : zwle zd_3101 zw_3101 = true := by decide +kernel
theorem z0_3101 : zst0 mi_P zd_3101 [] [] (fun d y as t en => zcal zw_3101 d y as t en zs_3101) zc_3101 zp_3101 zu_3101 580 = true := by decide +kernel
theorem zk_3101 : zu_3101.all (zck mi_P zc_3101.2.1 zd_3101 false [] [] (fun d y as t en => zcal zw_3101 d y as t en zs_3101) zc_3101.2.2.2.1.length zc_3101.2.2.2.1 zc_3101.2.2.2.2.2.1 zp_3101 zu_3101 580) = true := by decide +kernel
theorem zt_3101 {S : Nat × (Nat → Int32)} : zCtr mi_P S zTt zc_3101 := by
  have hc : ∀ c ∈ zs_3101, zCtr mi_P S zTt c := by
    intro c hc
    simp only [zs_3101, List.mem_cons, List.not_mem_nil, or_false] at hc
    rcases hc with rfl | rfl
    · exact zt_3100
    · exact zt_3003
  exact zCtr_of2 (Om := zTt) (ct := zc_3101) (ps := zp_3101) (Wd := zd_3101) zb_3101 (fun _ _ _ _ => trivial) rfl hc za_3101 z0_3101 zk_3101
theorem zn_3101 {S : Nat × (Nat → Int32)} : zCtr mi_P S zOm2 zc_3101 := by
  have hc : ∀ c ∈ zs_3101, zCtr mi_P S zOm2 c := by
    intro c hc
    simp only [zs_3101, List.mem_cons, List.not_mem_nil, or_false] at hc
    rcases hc with rfl | rfl
    · exact zn_3100
    · exact zOm2_up (by decide +kernel) zt_3003
  exact zCtr_of2 (Om := zOm2) (ct := zc_3101) (ps := zp_3101) (Wd := zd_3101) zb_3101 (zOm2_st (by decide +kernel)) rfl hc za_3101 z0_3101 zk_3101
/-- LModel.numeral(II)I -/
def zw_3102 : zW := .leaf (470, [4, 5])
def zq_3102_0 : zPo := ([], [], [(469, [((4, []), .inr (.inr (.inr (.inl (1, 4))))), ((5, []), zaI)])], some (zaI))
def zp_3102 : List (zPo × List (Nat ⊕ (Nat × zL))) := [(zq_3102_0, [])]
def zc_3102 : zCt := (187, 2, [.inr (.inl 469), zaI, zaI], [(0, 1600)], [], .leaf (470, 112, 73, .inr 3, [((3, []), .inl (0, [(0, 1)])), ((4, []), .inl (0, [])), ((5, []), zaI), ((6, []), .inl (0, [(0, 1)])), ((7, []), .inl (0, [(0, 1)])), ((8, []), .inl (0, [])), ((9, []), zaI)]), zw_3102, [.inr (469, (7, []))], zp_3102.map (fun p => p.1))
def zu_3102 : List zCu := []
def zs_3102 : List zCt := [zc_3100]
theorem za_3102 : zwin zw_3102 zc_3102.2.2.2.2.2.1 = true := by decide +kernel
def zd_3102 : zW := .leaf (0, [])
theorem zb_3102 : zwle zd_3102 zw_3102 = true := by decide +kernel
theorem z0_3102 : zst0 mi_P zd_3102 [] [] (fun d y as t en => zcal zw_3102 d y as t en zs_3102) zc_3102 zp_3102 zu_3102 306 = true := by decide +kernel
theorem zk_3102 : zu_3102.all (zck mi_P zc_3102.2.1 zd_3102 false [] [] (fun d y as t en => zcal zw_3102 d y as t en zs_3102) zc_3102.2.2.2.1.length zc_3102.2.2.2.1 zc_3102.2.2.2.2.2.1 zp_3102 zu_3102 306) = true := by decide +kernel
theorem zt_3102 {S : Nat × (Nat → Int32)} : zCtr mi_P S zTt zc_3102 := by
  have hc : ∀ c ∈ zs_3102, zCtr mi_P S zTt c := by
    intro c hc
    simp only [zs_3102, List.mem_cons, List.not_mem_nil, or_false] at hc
    rcases hc with rfl
    · exact zt_3100
  exact zCtr_of2 (Om := zTt) (ct := zc_3102) (ps := zp_3102) (Wd := zd_3102) zb_3102 (fun _ _ _ _ => trivial) rfl hc za_3102 z0_3102 zk_3102
theorem zn_3102 {S : Nat × (Nat → Int32)} : zCtr mi_P S zOm2 zc_3102 := by
  have hc : ∀ c ∈ zs_3102, zCtr mi_P S zOm2 c := by
    intro c hc
    simp only [zs_3102, List.mem_cons, List.not_mem_nil, or_false] at hc
    rcases hc with rfl
    · exact zn_3100
  exact zCtr_of2 (Om := zOm2) (ct := zc_3102) (ps := zp_3102) (Wd := zd_3102) zb_3102 (zOm2_st (by decide +kernel)) rfl hc za_3102 z0_3102 zk_3102
/-- LModel.after(JII)I -/
def zw_3103 : zW := .leaf (470, [4, 5, 6, 7, 8, 9, 10])
def zq_3103_0 : zPo := ([], [], [(469, [((4, []), .inr (.inr (.inr (.inl (1, 4))))), ((5, []), zaI), ((6, []), .inr (.inr (.inr (.inl (0, 1600))))), ((7, []), .inr (.inr (.inr (.inl (0, 1600))))), ((8, []), .inr (.inr (.inr (.inl (0, 5))))), ((9, []), zaI), ((10, []), .inr (.inr (.inr (.inr 0))))])], some (zaI))
def zq_3103_1 : zPo := ([(0, 1600), (0, 1600)], [(1, [(3, 1), (4, (-1))]), (0, [(2, (-1)), (4, 1)]), (1, [(1, 1), (4, (-1))]), (0, [(1, 1), (3, (-1))])], [(469, [((4, []), .inl (0, [])), ((5, []), zaI), ((6, []), .inl (0, [(3, 1)])), ((7, []), .inl (0, [(4, 1)])), ((8, []), .inr (.inr (.inr (.inl (1, 5))))), ((9, []), zaI), ((10, []), .inr (.inr (.inr (.inr 0))))])], some (zaI))
def zq_3103_2 : zPo := ([], [], [(469, [((4, []), .inl (0, [])), ((5, []), zaI), ((6, []), .inl (0, [(2, 1)])), ((7, []), .inl (0, [(2, 1)])), ((8, []), .inl (0, [])), ((9, []), zaI), ((10, []), .inr (.inr (.inr (.inr 0))))])], some (zaI))
def zp_3103 : List (zPo × List (Nat ⊕ (Nat × zL))) := [(zq_3103_0, []), (zq_3103_1, [.inr (469, (6, [])), .inr (469, (7, []))]), (zq_3103_2, [])]
def zc_3103 : zCt := (185, 3, [.inr (.inl 469), .inr (.inr (.inl (422675899507, []))), zaI, zaI], [(0, 1600), (0, 1600), (0, 1600)], [(1, [(0, 1), (1, (-1))]), (0, [(1, 1), (2, (-1))])], .branch 471 (.leaf (470, 112, 73, .inr 3, [((1, []), .inr (.inl 471)), ((3, []), .inl (0, [(2, 1)])), ((4, []), .inl (0, [])), ((5, []), zaI), ((6, []), .inl (0, [(0, 1)])), ((7, []), .inl (0, [(1, 1)])), ((8, []), .inr (.inr (.inr (.inl (1, 5))))), ((9, []), zaI), ((10, []), .inr (.inr (.inr (.inr 0))))])) (.leaf (472, 1, 1600, .inl ((-128), 127), [])), zw_3103, [.inr (469, (6, [])), .inr (469, (7, [])), .inr (469, (3, []))], zp_3103.map (fun p => p.1))
def zu_3103 : List zCu := []
def zs_3103 : List zCt := [zc_3100, zc_3003, zc_3101, zc_3102]
theorem za_3103 : zwin zw_3103 zc_3103.2.2.2.2.2.1 = true := by decide +kernel
def zd_3103 : zW := .leaf (0, [])
theorem zb_3103 : zwle zd_3103 zw_3103 = true := by decide +kernel
theorem z0_3103 : zst0 mi_P zd_3103 [] [] (fun d y as t en => zcal zw_3103 d y as t en zs_3103) zc_3103 zp_3103 zu_3103 576 = true := by decide +kernel
theorem zk_3103 : zu_3103.all (zck mi_P zc_3103.2.1 zd_3103 false [] [] (fun d y as t en => zcal zw_3103 d y as t en zs_3103) zc_3103.2.2.2.1.length zc_3103.2.2.2.1 zc_3103.2.2.2.2.2.1 zp_3103 zu_3103 576) = true := by decide +kernel
theorem zt_3103 {S : Nat × (Nat → Int32)} : zCtr mi_P S zTt zc_3103 := by
  have hc : ∀ c ∈ zs_3103, zCtr mi_P S zTt c := by
    intro c hc
    simp only [zs_3103, List.mem_cons, List.not_mem_nil, or_false] at hc
    rcases hc with rfl | rfl | rfl | rfl
    · exact zt_3100
    · exact zt_3003
    · exact zt_3101
    · exact zt_3102
  exact zCtr_of2 (Om := zTt) (ct := zc_3103) (ps := zp_3103) (Wd := zd_3103) zb_3103 (fun _ _ _ _ => trivial) rfl hc za_3103 z0_3103 zk_3103
theorem zn_3103 {S : Nat × (Nat → Int32)} : zCtr mi_P S zOm2 zc_3103 := by
  have hc : ∀ c ∈ zs_3103, zCtr mi_P S zOm2 c := by
    intro c hc
    simp only [zs_3103, List.mem_cons, List.not_mem_nil, or_false] at hc
    rcases hc with rfl | rfl | rfl | rfl
    · exact zn_3100
    · exact zOm2_up (by decide +kernel) zt_3003
    · exact zn_3101
    · exact zn_3102
  exact zCtr_of2 (Om := zOm2) (ct := zc_3103) (ps := zp_3103) (Wd := zd_3103) zb_3103 (zOm2_st (by decide +kernel)) rfl hc za_3103 z0_3103 zk_3103
/-- LModel.after(JII)I -/
def zw_3104 : zW := .leaf (470, [4, 5])
def zq_3104_0 : zPo := ([], [], [(469, [((4, []), .inr (.inr (.inr (.inl (1, 4))))), ((5, []), zaI)])], some (zaI))
def zp_3104 : List (zPo × List (Nat ⊕ (Nat × zL))) := [(zq_3104_0, [])]
def zc_3104 : zCt := (185, 3, [.inr (.inl 469), .inr (.inr (.inl (422675899507, []))), zaI, zaI], [(0, 1600)], [], .leaf (470, 112, 73, .inr 3, [((3, []), .inl (0, [(0, 1)])), ((4, []), .inl (0, [])), ((5, []), zaI), ((6, []), .inl (0, [(0, 1)])), ((7, []), .inl (0, [(0, 1)])), ((8, []), .inl (0, []))]), zw_3104, [.inr (469, (7, []))], zp_3104.map (fun p => p.1))
def zu_3104 : List zCu := []
def zs_3104 : List zCt := [zc_3100]
theorem za_3104 : zwin zw_3104 zc_3104.2.2.2.2.2.1 = true := by decide +kernel
def zd_3104 : zW := .leaf (0, [])
theorem zb_3104 : zwle zd_3104 zw_3104 = true := by decide +kernel
theorem z0_3104 : zst0 mi_P zd_3104 [] [] (fun d y as t en => zcal zw_3104 d y as t en zs_3104) zc_3104 zp_3104 zu_3104 298 = true := by decide +kernel
theorem zk_3104 : zu_3104.all (zck mi_P zc_3104.2.1 zd_3104 false [] [] (fun d y as t en => zcal zw_3104 d y as t en zs_3104) zc_3104.2.2.2.1.length zc_3104.2.2.2.1 zc_3104.2.2.2.2.2.1 zp_3104 zu_3104 298) = true := by decide +kernel
theorem zt_3104 {S : Nat × (Nat → Int32)} : zCtr mi_P S zTt zc_3104 := by
  have hc : ∀ c ∈ zs_3104, zCtr mi_P S zTt c := by
    intro c hc
    simp only [zs_3104, List.mem_cons, List.not_mem_nil, or_false] at hc
    rcases hc with rfl
    · exact zt_3100
  exact zCtr_of2 (Om := zTt) (ct := zc_3104) (ps := zp_3104) (Wd := zd_3104) zb_3104 (fun _ _ _ _ => trivial) rfl hc za_3104 z0_3104 zk_3104
theorem zn_3104 {S : Nat × (Nat → Int32)} : zCtr mi_P S zOm2 zc_3104 := by
  have hc : ∀ c ∈ zs_3104, zCtr mi_P S zOm2 c := by
    intro c hc
    simp only [zs_3104, List.mem_cons, List.not_mem_nil, or_false] at hc
    rcases hc with rfl
    · exact zn_3100
  exact zCtr_of2 (Om := zOm2) (ct := zc_3104) (ps := zp_3104) (Wd := zd_3104) zb_3104 (zOm2_st (by decide +kernel)) rfl hc za_3104 z0_3104 zk_3104
/-- LModel.after(JII)I -/
def zw_3105 : zW := .leaf (470, [4, 5, 6, 7, 8, 9, 10])
def zq_3105_0 : zPo := ([], [], [(469, [((4, []), .inr (.inr (.inr (.inl (1, 4))))), ((5, []), zaI), ((6, []), .inr (.inr (.inr (.inl (0, 1600))))), ((7, []), .inr (.inr (.inr (.inl (0, 1600))))), ((8, []), .inr (.inr (.inr (.inl (0, 5))))), ((9, []), zaI), ((10, []), .inr (.inr (.inr (.inr 0))))])], some (zaI))
def zq_3105_1 : zPo := ([(0, 1600), (0, 1600)], [(1, [(3, 1), (4, (-1))]), (0, [(2, (-1)), (4, 1)]), (1, [(1, 1), (4, (-1))]), (0, [(1, 1), (3, (-1))])], [(469, [((4, []), .inl (0, [])), ((5, []), zaI), ((6, []), .inl (0, [(3, 1)])), ((7, []), .inl (0, [(4, 1)])), ((8, []), .inr (.inr (.inr (.inl (1, 5))))), ((9, []), zaI), ((10, []), .inr (.inr (.inr (.inr 0))))])], some (zaI))
def zq_3105_2 : zPo := ([], [], [(469, [((4, []), .inl (0, [])), ((5, []), zaI), ((6, []), .inl (0, [(2, 1)])), ((7, []), .inl (0, [(2, 1)])), ((8, []), .inl (0, [])), ((9, []), zaI), ((10, []), .inr (.inr (.inr (.inr 0))))])], some (zaI))
def zp_3105 : List (zPo × List (Nat ⊕ (Nat × zL))) := [(zq_3105_0, []), (zq_3105_1, [.inr (469, (6, [])), .inr (469, (7, []))]), (zq_3105_2, [])]
def zc_3105 : zCt := (185, 3, [.inr (.inl 469), .inr (.inr (.inl (24948, []))), zaI, zaI], [(0, 1600), (0, 1600), (0, 1600)], [(1, [(0, 1), (1, (-1))]), (0, [(1, 1), (2, (-1))])], .branch 471 (.leaf (470, 112, 73, .inr 3, [((1, []), .inr (.inl 471)), ((3, []), .inl (0, [(2, 1)])), ((4, []), .inl (0, [])), ((5, []), zaI), ((6, []), .inl (0, [(0, 1)])), ((7, []), .inl (0, [(1, 1)])), ((8, []), .inr (.inr (.inr (.inl (1, 5))))), ((9, []), zaI), ((10, []), .inr (.inr (.inr (.inr 0))))])) (.leaf (472, 1, 1600, .inl ((-128), 127), [])), zw_3105, [.inr (469, (6, [])), .inr (469, (7, [])), .inr (469, (3, []))], zp_3105.map (fun p => p.1))
def zu_3105 : List zCu := []
def zs_3105 : List zCt := [zc_3100, zc_3003, zc_3101, zc_3102]
theorem za_3105 : zwin zw_3105 zc_3105.2.2.2.2.2.1 = true := by decide +kernel
def zd_3105 : zW := .leaf (0, [])
theorem zb_3105 : zwle zd_3105 zw_3105 = true := by decide +kernel
theorem z0_3105 : zst0 mi_P zd_3105 [] [] (fun d y as t en => zcal zw_3105 d y as t en zs_3105) zc_3105 zp_3105 zu_3105 576 = true := by decide +kernel
theorem zk_3105 : zu_3105.all (zck mi_P zc_3105.2.1 zd_3105 false [] [] (fun d y as t en => zcal zw_3105 d y as t en zs_3105) zc_3105.2.2.2.1.length zc_3105.2.2.2.1 zc_3105.2.2.2.2.2.1 zp_3105 zu_3105 576) = true := by decide +kernel
theorem zt_3105 {S : Nat × (Nat → Int32)} : zCtr mi_P S zTt zc_3105 := by
  have hc : ∀ c ∈ zs_3105, zCtr mi_P S zTt c := by
    intro c hc
    simp only [zs_3105, List.mem_cons, List.not_mem_nil, or_false] at hc
    rcases hc with rfl | rfl | rfl | rfl
    · exact zt_3100
    · exact zt_3003
    · exact zt_3101
    · exact zt_3102
  exact zCtr_of2 (Om := zTt) (ct := zc_3105) (ps := zp_3105) (Wd := zd_3105) zb_3105 (fun _ _ _ _ => trivial) rfl hc za_3105 z0_3105 zk_3105
theorem zn_3105 {S : Nat × (Nat → Int32)} : zCtr mi_P S zOm2 zc_3105 := by
  have hc : ∀ c ∈ zs_3105, zCtr mi_P S zOm2 c := by
    intro c hc
    simp only [zs_3105, List.mem_cons, List.not_mem_nil, or_false] at hc
    rcases hc with rfl | rfl | rfl | rfl
    · exact zn_3100
    · exact zOm2_up (by decide +kernel) zt_3003
    · exact zn_3101
    · exact zn_3102
  exact zCtr_of2 (Om := zOm2) (ct := zc_3105) (ps := zp_3105) (Wd := zd_3105) zb_3105 (zOm2_st (by decide +kernel)) rfl hc za_3105 z0_3105 zk_3105
/-- LModel.after(JII)I -/
def zw_3106 : zW := .leaf (470, [4, 5])
def zq_3106_0 : zPo := ([], [], [(469, [((4, []), .inr (.inr (.inr (.inl (1, 4))))), ((5, []), zaI)])], some (zaI))
def zp_3106 : List (zPo × List (Nat ⊕ (Nat × zL))) := [(zq_3106_0, [])]
def zc_3106 : zCt := (185, 3, [.inr (.inl 469), .inr (.inr (.inl (24948, []))), zaI, zaI], [(0, 1600)], [], .leaf (470, 112, 73, .inr 3, [((3, []), .inl (0, [(0, 1)])), ((4, []), .inl (0, [])), ((5, []), zaI), ((6, []), .inl (0, [(0, 1)])), ((7, []), .inl (0, [(0, 1)])), ((8, []), .inl (0, []))]), zw_3106, [.inr (469, (7, []))], zp_3106.map (fun p => p.1))
def zu_3106 : List zCu := []
def zs_3106 : List zCt := [zc_3100]
theorem za_3106 : zwin zw_3106 zc_3106.2.2.2.2.2.1 = true := by decide +kernel
def zd_3106 : zW := .leaf (0, [])
theorem zb_3106 : zwle zd_3106 zw_3106 = true := by decide +kernel
theorem z0_3106 : zst0 mi_P zd_3106 [] [] (fun d y as t en => zcal zw_3106 d y as t en zs_3106) zc_3106 zp_3106 zu_3106 298 = true := by decide +kernel
theorem zk_3106 : zu_3106.all (zck mi_P zc_3106.2.1 zd_3106 false [] [] (fun d y as t en => zcal zw_3106 d y as t en zs_3106) zc_3106.2.2.2.1.length zc_3106.2.2.2.1 zc_3106.2.2.2.2.2.1 zp_3106 zu_3106 298) = true := by decide +kernel
theorem zt_3106 {S : Nat × (Nat → Int32)} : zCtr mi_P S zTt zc_3106 := by
  have hc : ∀ c ∈ zs_3106, zCtr mi_P S zTt c := by
    intro c hc
    simp only [zs_3106, List.mem_cons, List.not_mem_nil, or_false] at hc
    rcases hc with rfl
    · exact zt_3100
  exact zCtr_of2 (Om := zTt) (ct := zc_3106) (ps := zp_3106) (Wd := zd_3106) zb_3106 (fun _ _ _ _ => trivial) rfl hc za_3106 z0_3106 zk_3106
theorem zn_3106 {S : Nat × (Nat → Int32)} : zCtr mi_P S zOm2 zc_3106 := by
  have hc : ∀ c ∈ zs_3106, zCtr mi_P S zOm2 c := by
    intro c hc
    simp only [zs_3106, List.mem_cons, List.not_mem_nil, or_false] at hc
    rcases hc with rfl
    · exact zn_3100
  exact zCtr_of2 (Om := zOm2) (ct := zc_3106) (ps := zp_3106) (Wd := zd_3106) zb_3106 (zOm2_st (by decide +kernel)) rfl hc za_3106 z0_3106 zk_3106
/-- LModel.readParty()V -/
def zw_3107 : zW := .branch 484 (.branch 480 (.leaf (470, [4, 5, 6, 7, 8, 9, 10])) (.branch 483 (.leaf (481, [0])) (.leaf (484, [0])))) (.branch 485 (.leaf (485, [0])) (.branch 488 (.leaf (486, [0])) (.leaf (489, [0]))))
def zq_3107_0 : zPo := ([], [], [(469, [((4, []), .inr (.inr (.inr (.inl (1, 4))))), ((5, []), zaI), ((6, []), .inr (.inr (.inr (.inl (0, 1600))))), ((7, []), .inr (.inr (.inr (.inl (0, 1600))))), ((8, []), .inr (.inr (.inr (.inl (0, 5))))), ((9, []), zaI), ((10, []), .inr (.inr (.inr (.inr 0))))]), (480, []), (483, []), (484, []), (485, []), (488, [])], none)
def zq_3107_1 : zPo := ([(0, 1600), (0, 1600)], [(1, [(3, 1), (4, (-1))]), (0, [(2, (-1)), (4, 1)]), (1, [(1, 1), (4, (-1))]), (0, [(1, 1), (3, (-1))])], [(469, [((4, []), .inl (0, [])), ((5, []), zaI), ((6, []), .inl (0, [(3, 1)])), ((7, []), .inl (0, [(4, 1)])), ((8, []), .inr (.inr (.inr (.inl (1, 5))))), ((9, []), zaI), ((10, []), .inr (.inr (.inr (.inr 0))))]), (480, []), (483, []), (484, []), (485, []), (488, [])], none)
def zq_3107_2 : zPo := ([], [], [(469, [((4, []), .inl (0, [])), ((5, []), zaI), ((6, []), .inl (0, [(2, 1)])), ((7, []), .inl (0, [(2, 1)])), ((8, []), .inl (0, [])), ((9, []), zaI), ((10, []), .inr (.inr (.inr (.inr 0))))]), (480, []), (483, []), (484, []), (485, []), (488, [])], none)
def zp_3107 : List (zPo × List (Nat ⊕ (Nat × zL))) := [(zq_3107_0, []), (zq_3107_1, [.inr (469, (6, [])), .inr (469, (7, []))]), (zq_3107_2, [])]
def zc_3107 : zCt := (198, 4, [.inr (.inl 469)], [(0, 1600), (0, 1600), (0, 1600)], [(1, [(0, 1), (1, (-1))]), (0, [(1, 1), (2, (-1))])], .branch 483 (.branch 471 (.leaf (470, 112, 73, .inr 3, [((1, []), .inr (.inl 471)), ((3, []), .inl (0, [(2, 1)])), ((4, []), .inl (0, [])), ((5, []), zaI), ((6, []), .inl (0, [(0, 1)])), ((7, []), .inl (0, [(1, 1)])), ((8, []), .inr (.inr (.inr (.inl (1, 5))))), ((9, []), zaI), ((10, []), .inr (.inr (.inr (.inr 0)))), ((19, []), .inr (.inl 480)), ((22, []), .inr (.inl 483)), ((23, []), .inr (.inl 484)), ((24, []), .inr (.inl 485)), ((27, []), .inr (.inl 488)), ((35, []), .inl (0, []))])) (.branch 480 (.leaf (472, 1, 1600, .inl ((-128), 127), [])) (.leaf (481, 0, 2, .inl (0, 12), [((0, []), .inr (.inr (.inr (.inl (0, 11)))))])))) (.branch 485 (.branch 484 (.leaf (484, 0, 24, .inl ((-2147483648), 2147483647), [])) (.leaf (485, 0, 24, .inl ((-2147483648), 2147483647), []))) (.branch 488 (.leaf (486, 0, 24, .inl ((-2147483648), 2147483647), [])) (.leaf (489, 2, 24, .inl (0, 1), [])))), zw_3107, [.inr (469, (6, [])), .inr (469, (7, [])), .inr (469, (3, []))], zp_3107.map (fun p => p.1))
def zu_3107 : List zCu := []
def zs_3107 : List zCt := [zc_3101, zc_3105, zc_3100, zc_3003, zc_3106]
theorem za_3107 : zwin zw_3107 zc_3107.2.2.2.2.2.1 = true := by decide +kernel
def zd_3107 : zW := .branch 484 (.branch 483 (.leaf (481, [0])) (.leaf (484, [0]))) (.branch 485 (.leaf (485, [0])) (.branch 488 (.leaf (486, [0])) (.leaf (489, [0]))))
theorem zb_3107 : zwle zd_3107 zw_3107 = true := by decide +kernel
theorem z0_3107 : zst0 mi_P zd_3107 [] [] (fun d y as t en => zcal zw_3107 d y as t en zs_3107) zc_3107 zp_3107 zu_3107 4874 = true := by decide +kernel
theorem zk_3107 : zu_3107.all (zck mi_P zc_3107.2.1 zd_3107 false [] [] (fun d y as t en => zcal zw_3107 d y as t en zs_3107) zc_3107.2.2.2.1.length zc_3107.2.2.2.1 zc_3107.2.2.2.2.2.1 zp_3107 zu_3107 4874) = true := by decide +kernel
theorem zt_3107 {S : Nat × (Nat → Int32)} : zCtr mi_P S zTt zc_3107 := by
  have hc : ∀ c ∈ zs_3107, zCtr mi_P S zTt c := by
    intro c hc
    simp only [zs_3107, List.mem_cons, List.not_mem_nil, or_false] at hc
    rcases hc with rfl | rfl | rfl | rfl | rfl
    · exact zt_3101
    · exact zt_3105
    · exact zt_3100
    · exact zt_3003
    · exact zt_3106
  exact zCtr_of2 (Om := zTt) (ct := zc_3107) (ps := zp_3107) (Wd := zd_3107) zb_3107 (fun _ _ _ _ => trivial) rfl hc za_3107 z0_3107 zk_3107
theorem zn_3107 {S : Nat × (Nat → Int32)} : zCtr mi_P S zOm2 zc_3107 := by
  have hc : ∀ c ∈ zs_3107, zCtr mi_P S zOm2 c := by
    intro c hc
    simp only [zs_3107, List.mem_cons, List.not_mem_nil, or_false] at hc
    rcases hc with rfl | rfl | rfl | rfl | rfl
    · exact zn_3101
    · exact zn_3105
    · exact zn_3100
    · exact zOm2_up (by decide +kernel) zt_3003
    · exact zn_3106
  exact zCtr_of2 (Om := zOm2) (ct := zc_3107) (ps := zp_3107) (Wd := zd_3107) zb_3107 (zOm2_st (by decide +kernel)) rfl hc za_3107 z0_3107 zk_3107
/-- LModel.readParty()V -/
def zw_3108 : zW := .branch 484 (.branch 480 (.leaf (470, [4, 5])) (.branch 483 (.leaf (481, [0])) (.leaf (484, [0])))) (.branch 485 (.leaf (485, [0])) (.branch 488 (.leaf (486, [0])) (.leaf (489, [0]))))
def zq_3108_0 : zPo := ([], [], [(469, [((4, []), .inr (.inr (.inr (.inl (1, 4))))), ((5, []), zaI)]), (480, []), (483, []), (484, []), (485, []), (488, [])], none)
def zp_3108 : List (zPo × List (Nat ⊕ (Nat × zL))) := [(zq_3108_0, [])]
def zc_3108 : zCt := (198, 3, [.inr (.inl 469)], [(0, 1600)], [], .branch 484 (.branch 480 (.leaf (470, 112, 73, .inr 3, [((3, []), .inl (0, [(0, 1)])), ((4, []), .inl (0, [])), ((5, []), zaI), ((6, []), .inl (0, [(0, 1)])), ((7, []), .inl (0, [(0, 1)])), ((8, []), .inl (0, [])), ((9, []), zaI), ((19, []), .inr (.inl 480)), ((22, []), .inr (.inl 483)), ((23, []), .inr (.inl 484)), ((24, []), .inr (.inl 485)), ((27, []), .inr (.inl 488)), ((35, []), .inl (0, []))])) (.branch 483 (.leaf (481, 0, 2, .inl (0, 12), [((0, []), .inr (.inr (.inr (.inl (0, 11)))))])) (.leaf (484, 0, 24, .inl ((-2147483648), 2147483647), [])))) (.branch 485 (.leaf (485, 0, 24, .inl ((-2147483648), 2147483647), [])) (.branch 488 (.leaf (486, 0, 24, .inl ((-2147483648), 2147483647), [])) (.leaf (489, 2, 24, .inl (0, 1), [])))), zw_3108, [.inr (469, (7, []))], zp_3108.map (fun p => p.1))
def zu_3108 : List zCu := []
def zs_3108 : List zCt := [zc_3102]
theorem za_3108 : zwin zw_3108 zc_3108.2.2.2.2.2.1 = true := by decide +kernel
def zd_3108 : zW := .branch 484 (.branch 483 (.leaf (481, [0])) (.leaf (484, [0]))) (.branch 485 (.leaf (485, [0])) (.branch 488 (.leaf (486, [0])) (.leaf (489, [0]))))
theorem zb_3108 : zwle zd_3108 zw_3108 = true := by decide +kernel
theorem z0_3108 : zst0 mi_P zd_3108 [] [] (fun d y as t en => zcal zw_3108 d y as t en zs_3108) zc_3108 zp_3108 zu_3108 472 = true := by decide +kernel
theorem zk_3108 : zu_3108.all (zck mi_P zc_3108.2.1 zd_3108 false [] [] (fun d y as t en => zcal zw_3108 d y as t en zs_3108) zc_3108.2.2.2.1.length zc_3108.2.2.2.1 zc_3108.2.2.2.2.2.1 zp_3108 zu_3108 472) = true := by decide +kernel
theorem zt_3108 {S : Nat × (Nat → Int32)} : zCtr mi_P S zTt zc_3108 := by
  have hc : ∀ c ∈ zs_3108, zCtr mi_P S zTt c := by
    intro c hc
    simp only [zs_3108, List.mem_cons, List.not_mem_nil, or_false] at hc
    rcases hc with rfl
    · exact zt_3102
  exact zCtr_of2 (Om := zTt) (ct := zc_3108) (ps := zp_3108) (Wd := zd_3108) zb_3108 (fun _ _ _ _ => trivial) rfl hc za_3108 z0_3108 zk_3108
theorem zn_3108 {S : Nat × (Nat → Int32)} : zCtr mi_P S zOm2 zc_3108 := by
  have hc : ∀ c ∈ zs_3108, zCtr mi_P S zOm2 c := by
    intro c hc
    simp only [zs_3108, List.mem_cons, List.not_mem_nil, or_false] at hc
    rcases hc with rfl
    · exact zn_3102
  exact zCtr_of2 (Om := zOm2) (ct := zc_3108) (ps := zp_3108) (Wd := zd_3108) zb_3108 (zOm2_st (by decide +kernel)) rfl hc za_3108 z0_3108 zk_3108
/-- LModel.readSort()V -/
def zw_3109 : zW := .leaf (470, [4, 5])
def zq_3109_0 : zPo := ([], [], [(469, [((4, []), .inr (.inr (.inr (.inl (1, 4))))), ((5, []), zaI)])], none)
def zp_3109 : List (zPo × List (Nat ⊕ (Nat × zL))) := [(zq_3109_0, [])]
def zc_3109 : zCt := (184, 2, [.inr (.inl 469)], [(0, 1600)], [], .branch 479 (.leaf (470, 112, 73, .inr 3, [((3, []), .inl (0, [(0, 1)])), ((4, []), .inl (0, [])), ((5, []), zaI), ((6, []), .inl (0, [(0, 1)])), ((7, []), .inl (0, [(0, 1)])), ((8, []), .inl (0, [])), ((18, []), .inr (.inl 479)), ((35, []), .inl (0, []))])) (.leaf (480, 0, 2, .inl (0, 4), [((0, []), .inr (.inr (.inr (.inl (0, 3)))))])), zw_3109, [.inr (469, (7, []))], zp_3109.map (fun p => p.1))
def zu_3109 : List zCu := [(([(184, 14, [(2, .inl (0, [])), (1, .inl (0, [(1, 1)])), (0, .inr (.inl 469))], [])], .branch 479 (.leaf (470, 112, 73, .inr 3, [((3, []), .inl (0, [(0, 1)])), ((6, []), .inl (0, [(0, 1)])), ((7, []), .inl (0, [(0, 1)])), ((8, []), .inl (0, [])), ((18, []), .inr (.inl 479)), ((35, []), .inl (0, [])), ((4, []), .inr (.inr (.inr (.inl (1, 4))))), ((5, []), zaI)])) (.leaf (480, 0, 2, .inl (0, 4), [((0, []), .inl (0, [(1, 1)]))])), [(0, 1600), (0, 3)], [], []), [.inl (0, 1)], (0, []))]
def zs_3109 : List zCt := [zc_3100]
theorem za_3109 : zwin zw_3109 zc_3109.2.2.2.2.2.1 = true := by decide +kernel
def zd_3109 : zW := .leaf (0, [])
theorem zb_3109 : zwle zd_3109 zw_3109 = true := by decide +kernel
theorem z0_3109 : zst0 mi_P zd_3109 [] [] (fun d y as t en => zcal zw_3109 d y as t en zs_3109) zc_3109 zp_3109 zu_3109 254 = true := by decide +kernel
theorem zk_3109 : zu_3109.all (zck mi_P zc_3109.2.1 zd_3109 false [] [] (fun d y as t en => zcal zw_3109 d y as t en zs_3109) zc_3109.2.2.2.1.length zc_3109.2.2.2.1 zc_3109.2.2.2.2.2.1 zp_3109 zu_3109 254) = true := by decide +kernel
theorem zt_3109 {S : Nat × (Nat → Int32)} : zCtr mi_P S zTt zc_3109 := by
  have hc : ∀ c ∈ zs_3109, zCtr mi_P S zTt c := by
    intro c hc
    simp only [zs_3109, List.mem_cons, List.not_mem_nil, or_false] at hc
    rcases hc with rfl
    · exact zt_3100
  exact zCtr_of2 (Om := zTt) (ct := zc_3109) (ps := zp_3109) (Wd := zd_3109) zb_3109 (fun _ _ _ _ => trivial) rfl hc za_3109 z0_3109 zk_3109
theorem zn_3109 {S : Nat × (Nat → Int32)} : zCtr mi_P S zOm2 zc_3109 := by
  have hc : ∀ c ∈ zs_3109, zCtr mi_P S zOm2 c := by
    intro c hc
    simp only [zs_3109, List.mem_cons, List.not_mem_nil, or_false] at hc
    rcases hc with rfl
    · exact zn_3100
  exact zCtr_of2 (Om := zOm2) (ct := zc_3109) (ps := zp_3109) (Wd := zd_3109) zb_3109 (zOm2_st (by decide +kernel)) rfl hc za_3109 z0_3109 zk_3109
/-- LModel.readParty()V -/
def zw_3110 : zW := .branch 484 (.branch 480 (.leaf (470, [4, 5, 6, 7, 8, 9, 10])) (.branch 483 (.leaf (481, [0])) (.leaf (484, [0])))) (.branch 485 (.leaf (485, [0])) (.branch 488 (.leaf (486, [0])) (.leaf (489, [0]))))
def zq_3110_0 : zPo := ([], [], [(469, [((4, []), .inr (.inr (.inr (.inl (1, 4))))), ((5, []), zaI), ((6, []), .inr (.inr (.inr (.inl (0, 1600))))), ((7, []), .inr (.inr (.inr (.inl (0, 1600))))), ((8, []), .inr (.inr (.inr (.inl (0, 5))))), ((9, []), zaI), ((10, []), .inr (.inr (.inr (.inr 0))))]), (480, []), (483, []), (484, []), (485, []), (488, [])], none)
def zq_3110_1 : zPo := ([(0, 1600), (0, 1600)], [(1, [(3, 1), (4, (-1))]), (0, [(2, (-1)), (4, 1)]), (1, [(1, 1), (4, (-1))]), (0, [(1, 1), (3, (-1))])], [(469, [((4, []), .inl (0, [])), ((5, []), zaI), ((6, []), .inl (0, [(3, 1)])), ((7, []), .inl (0, [(4, 1)])), ((8, []), .inr (.inr (.inr (.inl (1, 5))))), ((9, []), zaI), ((10, []), .inr (.inr (.inr (.inr 0))))]), (480, []), (483, []), (484, []), (485, []), (488, [])], none)
def zq_3110_2 : zPo := ([], [], [(469, [((4, []), .inl (0, [])), ((5, []), zaI), ((6, []), .inl (0, [(2, 1)])), ((7, []), .inl (0, [(2, 1)])), ((8, []), .inl (0, [])), ((9, []), zaI), ((10, []), .inr (.inr (.inr (.inr 0))))]), (480, []), (483, []), (484, []), (485, []), (488, [])], none)
def zp_3110 : List (zPo × List (Nat ⊕ (Nat × zL))) := [(zq_3110_0, []), (zq_3110_1, [.inr (469, (6, [])), .inr (469, (7, []))]), (zq_3110_2, [])]
def zc_3110 : zCt := (198, 4, [.inr (.inl 469)], [(0, 1600), (0, 1600), (0, 1600)], [(1, [(0, 1), (1, (-1))]), (0, [(1, 1), (2, (-1))])], .branch 483 (.branch 471 (.leaf (470, 112, 73, .inr 3, [((1, []), .inr (.inl 471)), ((3, []), .inl (0, [(2, 1)])), ((4, []), .inl (0, [])), ((5, []), zaI), ((6, []), .inl (0, [(0, 1)])), ((7, []), .inl (0, [(1, 1)])), ((8, []), .inr (.inr (.inr (.inl (1, 5))))), ((9, []), zaI), ((10, []), .inr (.inr (.inr (.inr 0)))), ((19, []), .inr (.inl 480)), ((22, []), .inr (.inl 483)), ((23, []), .inr (.inl 484)), ((24, []), .inr (.inl 485)), ((27, []), .inr (.inl 488)), ((35, []), .inl (1, []))])) (.branch 480 (.leaf (472, 1, 1600, .inl ((-128), 127), [])) (.leaf (481, 0, 2, .inl (0, 12), [((1, []), .inr (.inr (.inr (.inl (0, 11)))))])))) (.branch 485 (.branch 484 (.leaf (484, 0, 24, .inl ((-2147483648), 2147483647), [])) (.leaf (485, 0, 24, .inl ((-2147483648), 2147483647), []))) (.branch 488 (.leaf (486, 0, 24, .inl ((-2147483648), 2147483647), [])) (.leaf (489, 2, 24, .inl (0, 1), [])))), zw_3110, [.inr (469, (6, [])), .inr (469, (7, [])), .inr (469, (3, []))], zp_3110.map (fun p => p.1))
def zu_3110 : List zCu := []
def zs_3110 : List zCt := [zc_3101, zc_3105, zc_3100, zc_3003, zc_3106]
theorem za_3110 : zwin zw_3110 zc_3110.2.2.2.2.2.1 = true := by decide +kernel
def zd_3110 : zW := .branch 484 (.branch 483 (.leaf (481, [0])) (.leaf (484, [0]))) (.branch 485 (.leaf (485, [0])) (.branch 488 (.leaf (486, [0])) (.leaf (489, [0]))))
theorem zb_3110 : zwle zd_3110 zw_3110 = true := by decide +kernel
theorem z0_3110 : zst0 mi_P zd_3110 [] [] (fun d y as t en => zcal zw_3110 d y as t en zs_3110) zc_3110 zp_3110 zu_3110 4874 = true := by decide +kernel
theorem zk_3110 : zu_3110.all (zck mi_P zc_3110.2.1 zd_3110 false [] [] (fun d y as t en => zcal zw_3110 d y as t en zs_3110) zc_3110.2.2.2.1.length zc_3110.2.2.2.1 zc_3110.2.2.2.2.2.1 zp_3110 zu_3110 4874) = true := by decide +kernel
theorem zt_3110 {S : Nat × (Nat → Int32)} : zCtr mi_P S zTt zc_3110 := by
  have hc : ∀ c ∈ zs_3110, zCtr mi_P S zTt c := by
    intro c hc
    simp only [zs_3110, List.mem_cons, List.not_mem_nil, or_false] at hc
    rcases hc with rfl | rfl | rfl | rfl | rfl
    · exact zt_3101
    · exact zt_3105
    · exact zt_3100
    · exact zt_3003
    · exact zt_3106
  exact zCtr_of2 (Om := zTt) (ct := zc_3110) (ps := zp_3110) (Wd := zd_3110) zb_3110 (fun _ _ _ _ => trivial) rfl hc za_3110 z0_3110 zk_3110
theorem zn_3110 {S : Nat × (Nat → Int32)} : zCtr mi_P S zOm2 zc_3110 := by
  have hc : ∀ c ∈ zs_3110, zCtr mi_P S zOm2 c := by
    intro c hc
    simp only [zs_3110, List.mem_cons, List.not_mem_nil, or_false] at hc
    rcases hc with rfl | rfl | rfl | rfl | rfl
    · exact zn_3101
    · exact zn_3105
    · exact zn_3100
    · exact zOm2_up (by decide +kernel) zt_3003
    · exact zn_3106
  exact zCtr_of2 (Om := zOm2) (ct := zc_3110) (ps := zp_3110) (Wd := zd_3110) zb_3110 (zOm2_st (by decide +kernel)) rfl hc za_3110 z0_3110 zk_3110
/-- LModel.readParty()V -/
def zw_3111 : zW := .branch 484 (.branch 480 (.leaf (470, [4, 5])) (.branch 483 (.leaf (481, [0])) (.leaf (484, [0])))) (.branch 485 (.leaf (485, [0])) (.branch 488 (.leaf (486, [0])) (.leaf (489, [0]))))
def zq_3111_0 : zPo := ([], [], [(469, [((4, []), .inr (.inr (.inr (.inl (1, 4))))), ((5, []), zaI)]), (480, []), (483, []), (484, []), (485, []), (488, [])], none)
def zp_3111 : List (zPo × List (Nat ⊕ (Nat × zL))) := [(zq_3111_0, [])]
def zc_3111 : zCt := (198, 3, [.inr (.inl 469)], [(0, 1600)], [], .branch 484 (.branch 480 (.leaf (470, 112, 73, .inr 3, [((3, []), .inl (0, [(0, 1)])), ((4, []), .inl (0, [])), ((5, []), zaI), ((6, []), .inl (0, [(0, 1)])), ((7, []), .inl (0, [(0, 1)])), ((8, []), .inl (0, [])), ((9, []), zaI), ((19, []), .inr (.inl 480)), ((22, []), .inr (.inl 483)), ((23, []), .inr (.inl 484)), ((24, []), .inr (.inl 485)), ((27, []), .inr (.inl 488)), ((35, []), .inl (1, []))])) (.branch 483 (.leaf (481, 0, 2, .inl (0, 12), [((1, []), .inr (.inr (.inr (.inl (0, 11)))))])) (.leaf (484, 0, 24, .inl ((-2147483648), 2147483647), [])))) (.branch 485 (.leaf (485, 0, 24, .inl ((-2147483648), 2147483647), [])) (.branch 488 (.leaf (486, 0, 24, .inl ((-2147483648), 2147483647), [])) (.leaf (489, 2, 24, .inl (0, 1), [])))), zw_3111, [.inr (469, (7, []))], zp_3111.map (fun p => p.1))
def zu_3111 : List zCu := []
def zs_3111 : List zCt := [zc_3102]
theorem za_3111 : zwin zw_3111 zc_3111.2.2.2.2.2.1 = true := by decide +kernel
def zd_3111 : zW := .branch 484 (.branch 483 (.leaf (481, [0])) (.leaf (484, [0]))) (.branch 485 (.leaf (485, [0])) (.branch 488 (.leaf (486, [0])) (.leaf (489, [0]))))
theorem zb_3111 : zwle zd_3111 zw_3111 = true := by decide +kernel
theorem z0_3111 : zst0 mi_P zd_3111 [] [] (fun d y as t en => zcal zw_3111 d y as t en zs_3111) zc_3111 zp_3111 zu_3111 472 = true := by decide +kernel
theorem zk_3111 : zu_3111.all (zck mi_P zc_3111.2.1 zd_3111 false [] [] (fun d y as t en => zcal zw_3111 d y as t en zs_3111) zc_3111.2.2.2.1.length zc_3111.2.2.2.1 zc_3111.2.2.2.2.2.1 zp_3111 zu_3111 472) = true := by decide +kernel
theorem zt_3111 {S : Nat × (Nat → Int32)} : zCtr mi_P S zTt zc_3111 := by
  have hc : ∀ c ∈ zs_3111, zCtr mi_P S zTt c := by
    intro c hc
    simp only [zs_3111, List.mem_cons, List.not_mem_nil, or_false] at hc
    rcases hc with rfl
    · exact zt_3102
  exact zCtr_of2 (Om := zTt) (ct := zc_3111) (ps := zp_3111) (Wd := zd_3111) zb_3111 (fun _ _ _ _ => trivial) rfl hc za_3111 z0_3111 zk_3111
theorem zn_3111 {S : Nat × (Nat → Int32)} : zCtr mi_P S zOm2 zc_3111 := by
  have hc : ∀ c ∈ zs_3111, zCtr mi_P S zOm2 c := by
    intro c hc
    simp only [zs_3111, List.mem_cons, List.not_mem_nil, or_false] at hc
    rcases hc with rfl
    · exact zn_3102
  exact zCtr_of2 (Om := zOm2) (ct := zc_3111) (ps := zp_3111) (Wd := zd_3111) zb_3111 (zOm2_st (by decide +kernel)) rfl hc za_3111 z0_3111 zk_3111
/-- LModel.readSort()V -/
def zw_3112 : zW := .leaf (470, [4, 5])
def zq_3112_0 : zPo := ([], [], [(469, [((4, []), .inr (.inr (.inr (.inl (1, 4))))), ((5, []), zaI)])], none)
def zp_3112 : List (zPo × List (Nat ⊕ (Nat × zL))) := [(zq_3112_0, [])]
def zc_3112 : zCt := (184, 2, [.inr (.inl 469)], [(0, 1600)], [], .branch 479 (.leaf (470, 112, 73, .inr 3, [((3, []), .inl (0, [(0, 1)])), ((4, []), .inl (0, [])), ((5, []), zaI), ((6, []), .inl (0, [(0, 1)])), ((7, []), .inl (0, [(0, 1)])), ((8, []), .inl (0, [])), ((18, []), .inr (.inl 479)), ((35, []), .inl (1, []))])) (.leaf (480, 0, 2, .inl (0, 4), [((1, []), .inr (.inr (.inr (.inl (0, 3)))))])), zw_3112, [.inr (469, (7, []))], zp_3112.map (fun p => p.1))
def zu_3112 : List zCu := [(([(184, 14, [(2, .inl (0, [])), (1, .inl (0, [(1, 1)])), (0, .inr (.inl 469))], [])], .branch 479 (.leaf (470, 112, 73, .inr 3, [((3, []), .inl (0, [(0, 1)])), ((6, []), .inl (0, [(0, 1)])), ((7, []), .inl (0, [(0, 1)])), ((8, []), .inl (0, [])), ((18, []), .inr (.inl 479)), ((35, []), .inl (1, [])), ((4, []), .inr (.inr (.inr (.inl (1, 4))))), ((5, []), zaI)])) (.leaf (480, 0, 2, .inl (0, 4), [((1, []), .inl (0, [(1, 1)]))])), [(0, 1600), (0, 3)], [], []), [.inl (0, 1)], (0, []))]
def zs_3112 : List zCt := [zc_3100]
theorem za_3112 : zwin zw_3112 zc_3112.2.2.2.2.2.1 = true := by decide +kernel
def zd_3112 : zW := .leaf (0, [])
theorem zb_3112 : zwle zd_3112 zw_3112 = true := by decide +kernel
theorem z0_3112 : zst0 mi_P zd_3112 [] [] (fun d y as t en => zcal zw_3112 d y as t en zs_3112) zc_3112 zp_3112 zu_3112 254 = true := by decide +kernel
theorem zk_3112 : zu_3112.all (zck mi_P zc_3112.2.1 zd_3112 false [] [] (fun d y as t en => zcal zw_3112 d y as t en zs_3112) zc_3112.2.2.2.1.length zc_3112.2.2.2.1 zc_3112.2.2.2.2.2.1 zp_3112 zu_3112 254) = true := by decide +kernel
theorem zt_3112 {S : Nat × (Nat → Int32)} : zCtr mi_P S zTt zc_3112 := by
  have hc : ∀ c ∈ zs_3112, zCtr mi_P S zTt c := by
    intro c hc
    simp only [zs_3112, List.mem_cons, List.not_mem_nil, or_false] at hc
    rcases hc with rfl
    · exact zt_3100
  exact zCtr_of2 (Om := zTt) (ct := zc_3112) (ps := zp_3112) (Wd := zd_3112) zb_3112 (fun _ _ _ _ => trivial) rfl hc za_3112 z0_3112 zk_3112
theorem zn_3112 {S : Nat × (Nat → Int32)} : zCtr mi_P S zOm2 zc_3112 := by
  have hc : ∀ c ∈ zs_3112, zCtr mi_P S zOm2 c := by
    intro c hc
    simp only [zs_3112, List.mem_cons, List.not_mem_nil, or_false] at hc
    rcases hc with rfl
    · exact zn_3100
  exact zCtr_of2 (Om := zOm2) (ct := zc_3112) (ps := zp_3112) (Wd := zd_3112) zb_3112 (zOm2_st (by decide +kernel)) rfl hc za_3112 z0_3112 zk_3112
