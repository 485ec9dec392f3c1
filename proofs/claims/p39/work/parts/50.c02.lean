/-- L$Reader.readUnit(I)V -/
def zw_45 : zW := .branch 16 (.branch 13 (.leaf (9, [1, 2, 5])) (.leaf (14, [1, 3]))) (.branch 22 (.leaf (17, [0])) (.leaf (23, [0, 1, 2, 3])))
def zp_45 : List (zPo × List (Nat ⊕ (Nat × zL))) := [(([], [], [(8, [((1, []), zaI), ((2, []), zaI), ((5, []), .inr (.inr (.inr (.inl (0, 30)))))]), (13, [((1, []), zaI), ((3, []), .inr (.inr (.inr (.inl (0, 540)))))]), (16, []), (22, [((0, []), zaI), ((1, []), .inr (.inr (.inr (.inl (0, 1600))))), ((2, []), .inr (.inr (.inr (.inl (0, 1600))))), ((3, []), zaI)])], none), [])]
def zc_45 : zCt := (45, 42, [.inr (.inl 8), .inl (2, [])], [], [], .branch 13 (.branch 8 (.leaf (8, 1, 1600, .inl ((-128), 127), [])) (.branch 9 (.leaf (9, 101, 8, .inr 3, [((0, []), .inr (.inl 9)), ((1, []), zaI), ((2, []), zaI), ((3, []), .inr (.inl 22)), ((5, []), .inr (.inr (.inr (.inl (0, 30)))))])) (.leaf (10, 102, 11, .inr 3, [((1, []), .inr (.inl 13))])))) (.branch 16 (.leaf (14, 104, 7, .inr 3, [((1, []), zaI), ((3, []), .inr (.inr (.inr (.inl (0, 540))))), ((5, []), .inr (.inl 16))])) (.branch 22 (.leaf (17, 0, 540, .inr 1, [])) (.leaf (23, 105, 6, .inr 3, [((0, []), zaI), ((1, []), .inr (.inr (.inr (.inl (0, 1600))))), ((2, []), .inr (.inr (.inr (.inl (0, 1600))))), ((3, []), zaI), ((4, []), .inr (.inl 7)), ((5, []), .inr (.inr (.inr (.inl (0, 1600)))))])))), zw_45, [], zp_45.map (fun p => p.1))
def zu_45 : List zCu := []
def zs_45 : List zCt := [zc_7, zc_5, zc_44]
theorem za_45 : zwin zw_45 zc_45.2.2.2.2.2.1 = true := by decide +kernel
theorem z0_45 : zst0 mi_P zw_45 [] [] (fun d y as t en => zcal zw_45 d y as t en zs_45) zc_45 zp_45 zu_45 916 = true := by decide +kernel
theorem zk_45 : zu_45.all (zck mi_P zc_45.2.1 zw_45 false [] [] (fun d y as t en => zcal zw_45 d y as t en zs_45) zc_45.2.2.2.1.length zc_45.2.2.2.1 zc_45.2.2.2.2.2.1 zp_45 zu_45 916) = true := by decide +kernel
theorem zt_45 {S : Nat × (Nat → Int32)} : zCtr mi_P S zTt zc_45 := by
  have hc : ∀ c ∈ zs_45, zCtr mi_P S zTt c := by
    intro c hc
    simp only [zs_45, List.mem_cons, List.not_mem_nil, or_false] at hc
    rcases hc with rfl | rfl | rfl
    · exact zt_7
    · exact zt_5
    · exact zt_44
  exact zCtr_of (Om := zTt) (ct := zc_45) (ps := zp_45) (fun _ _ _ _ => trivial) rfl hc za_45 z0_45 zk_45
/-- L$Reader.readTerm(I)V -/
def zw_46 : zW := .branch 16 (.branch 13 (.leaf (9, [1, 2, 5])) (.leaf (14, [1, 3]))) (.branch 22 (.leaf (17, [0])) (.leaf (23, [0, 1, 2, 3])))
def zp_46 : List (zPo × List (Nat ⊕ (Nat × zL))) := [(([], [], [(8, [((1, []), zaI), ((2, []), zaI), ((5, []), .inr (.inr (.inr (.inl (0, 30)))))]), (13, [((1, []), zaI), ((3, []), .inr (.inr (.inr (.inl (0, 540)))))]), (16, []), (22, [((0, []), zaI), ((1, []), .inr (.inr (.inr (.inl (0, 1600))))), ((2, []), .inr (.inr (.inr (.inl (0, 1600))))), ((3, []), zaI)])], none), [])]
def zc_46 : zCt := (44, 43, [.inr (.inl 8), .inl (2, [])], [], [], .branch 13 (.branch 8 (.leaf (8, 1, 1600, .inl ((-128), 127), [])) (.branch 9 (.leaf (9, 101, 8, .inr 3, [((0, []), .inr (.inl 9)), ((1, []), zaI), ((2, []), zaI), ((3, []), .inr (.inl 22)), ((5, []), .inr (.inr (.inr (.inl (0, 30)))))])) (.leaf (10, 102, 11, .inr 3, [((1, []), .inr (.inl 13))])))) (.branch 16 (.leaf (14, 104, 7, .inr 3, [((1, []), zaI), ((3, []), .inr (.inr (.inr (.inl (0, 540))))), ((5, []), .inr (.inl 16))])) (.branch 22 (.leaf (17, 0, 540, .inr 1, [])) (.leaf (23, 105, 6, .inr 3, [((0, []), zaI), ((1, []), .inr (.inr (.inr (.inl (0, 1600))))), ((2, []), .inr (.inr (.inr (.inl (0, 1600))))), ((3, []), zaI), ((4, []), .inr (.inl 7)), ((5, []), .inr (.inr (.inr (.inl (0, 1600)))))])))), zw_46, [], zp_46.map (fun p => p.1))
def zu_46 : List zCu := [(([(44, 5, [(2, .inl (0, [(0, 1)])), (0, .inr (.inl 8)), (1, .inl (2, []))], [])], .branch 13 (.branch 8 (.leaf (8, 1, 1600, .inl ((-128), 127), [])) (.branch 9 (.leaf (9, 101, 8, .inr 3, [((0, []), .inr (.inl 9)), ((3, []), .inr (.inl 22)), ((1, []), zaI), ((2, []), zaI), ((5, []), .inr (.inr (.inr (.inl (0, 30)))))])) (.leaf (10, 102, 11, .inr 3, [((1, []), .inr (.inl 13))])))) (.branch 16 (.leaf (14, 104, 7, .inr 3, [((5, []), .inr (.inl 16)), ((1, []), zaI), ((3, []), .inr (.inr (.inr (.inl (0, 540)))))])) (.branch 22 (.leaf (17, 0, 540, .inr 1, [])) (.leaf (23, 105, 6, .inr 3, [((4, []), .inr (.inl 7)), ((5, []), .inr (.inr (.inr (.inl (0, 1600))))), ((0, []), zaI), ((1, []), .inr (.inr (.inr (.inl (0, 1600))))), ((2, []), .inr (.inr (.inr (.inl (0, 1600))))), ((3, []), zaI)])))), [(0, 30)], [], []), [.inl (0, 2)], (30, [(0, (-1))]))]
def zs_46 : List zCt := [zc_45, zc_5]
theorem za_46 : zwin zw_46 zc_46.2.2.2.2.2.1 = true := by decide +kernel
theorem z0_46 : zst0 mi_P zw_46 [] [] (fun d y as t en => zcal zw_46 d y as t en zs_46) zc_46 zp_46 zu_46 548 = true := by decide +kernel
theorem zk_46 : zu_46.all (zck mi_P zc_46.2.1 zw_46 false [] [] (fun d y as t en => zcal zw_46 d y as t en zs_46) zc_46.2.2.2.1.length zc_46.2.2.2.1 zc_46.2.2.2.2.2.1 zp_46 zu_46 548) = true := by decide +kernel
theorem zt_46 {S : Nat × (Nat → Int32)} : zCtr mi_P S zTt zc_46 := by
  have hc : ∀ c ∈ zs_46, zCtr mi_P S zTt c := by
    intro c hc
    simp only [zs_46, List.mem_cons, List.not_mem_nil, or_false] at hc
    rcases hc with rfl | rfl
    · exact zt_45
    · exact zt_5
  exact zCtr_of (Om := zTt) (ct := zc_46) (ps := zp_46) (fun _ _ _ _ => trivial) rfl hc za_46 z0_46 zk_46
/-- L$Reader.readSum(I)V -/
def zw_47 : zW := .branch 16 (.branch 13 (.leaf (9, [1, 2, 5])) (.leaf (14, [1, 3]))) (.branch 22 (.leaf (17, [0])) (.leaf (23, [0, 1, 2, 3])))
def zp_47 : List (zPo × List (Nat ⊕ (Nat × zL))) := [(([], [], [(8, [((1, []), zaI), ((2, []), zaI), ((5, []), .inr (.inr (.inr (.inl (0, 30)))))]), (13, [((1, []), zaI), ((3, []), .inr (.inr (.inr (.inl (0, 540)))))]), (16, []), (22, [((0, []), zaI), ((1, []), .inr (.inr (.inr (.inl (0, 1600))))), ((2, []), .inr (.inr (.inr (.inl (0, 1600))))), ((3, []), zaI)])], none), [])]
def zc_47 : zCt := (43, 44, [.inr (.inl 8), .inl (2, [])], [], [], .branch 13 (.branch 8 (.leaf (8, 1, 1600, .inl ((-128), 127), [])) (.branch 9 (.leaf (9, 101, 8, .inr 3, [((0, []), .inr (.inl 9)), ((1, []), zaI), ((2, []), zaI), ((3, []), .inr (.inl 22)), ((5, []), .inr (.inr (.inr (.inl (0, 30)))))])) (.leaf (10, 102, 11, .inr 3, [((1, []), .inr (.inl 13))])))) (.branch 16 (.leaf (14, 104, 7, .inr 3, [((1, []), zaI), ((3, []), .inr (.inr (.inr (.inl (0, 540))))), ((5, []), .inr (.inl 16))])) (.branch 22 (.leaf (17, 0, 540, .inr 1, [])) (.leaf (23, 105, 6, .inr 3, [((0, []), zaI), ((1, []), .inr (.inr (.inr (.inl (0, 1600))))), ((2, []), .inr (.inr (.inr (.inl (0, 1600))))), ((3, []), zaI), ((4, []), .inr (.inl 7)), ((5, []), .inr (.inr (.inr (.inl (0, 1600)))))])))), zw_47, [], zp_47.map (fun p => p.1))
def zu_47 : List zCu := [(([(43, 5, [(2, .inl (0, [(0, 1)])), (0, .inr (.inl 8)), (1, .inl (2, []))], [])], .branch 13 (.branch 8 (.leaf (8, 1, 1600, .inl ((-128), 127), [])) (.branch 9 (.leaf (9, 101, 8, .inr 3, [((0, []), .inr (.inl 9)), ((3, []), .inr (.inl 22)), ((1, []), zaI), ((2, []), zaI), ((5, []), .inr (.inr (.inr (.inl (0, 30)))))])) (.leaf (10, 102, 11, .inr 3, [((1, []), .inr (.inl 13))])))) (.branch 16 (.leaf (14, 104, 7, .inr 3, [((5, []), .inr (.inl 16)), ((1, []), zaI), ((3, []), .inr (.inr (.inr (.inl (0, 540)))))])) (.branch 22 (.leaf (17, 0, 540, .inr 1, [])) (.leaf (23, 105, 6, .inr 3, [((4, []), .inr (.inl 7)), ((5, []), .inr (.inr (.inr (.inl (0, 1600))))), ((0, []), zaI), ((1, []), .inr (.inr (.inr (.inl (0, 1600))))), ((2, []), .inr (.inr (.inr (.inl (0, 1600))))), ((3, []), zaI)])))), [(0, 30)], [], []), [.inl (0, 2)], (30, [(0, (-1))]))]
def zs_47 : List zCt := [zc_46, zc_5]
theorem za_47 : zwin zw_47 zc_47.2.2.2.2.2.1 = true := by decide +kernel
theorem z0_47 : zst0 mi_P zw_47 [] [] (fun d y as t en => zcal zw_47 d y as t en zs_47) zc_47 zp_47 zu_47 408 = true := by decide +kernel
theorem zk_47 : zu_47.all (zck mi_P zc_47.2.1 zw_47 false [] [] (fun d y as t en => zcal zw_47 d y as t en zs_47) zc_47.2.2.2.1.length zc_47.2.2.2.1 zc_47.2.2.2.2.2.1 zp_47 zu_47 408) = true := by decide +kernel
theorem zt_47 {S : Nat × (Nat → Int32)} : zCtr mi_P S zTt zc_47 := by
  have hc : ∀ c ∈ zs_47, zCtr mi_P S zTt c := by
    intro c hc
    simp only [zs_47, List.mem_cons, List.not_mem_nil, or_false] at hc
    rcases hc with rfl | rfl
    · exact zt_46
    · exact zt_5
  exact zCtr_of (Om := zTt) (ct := zc_47) (ps := zp_47) (fun _ _ _ _ => trivial) rfl hc za_47 z0_47 zk_47
/-- L$Reader.readRelation(I)V -/
def zw_48 : zW := .branch 16 (.branch 13 (.leaf (9, [1, 2, 5])) (.leaf (14, [1, 3]))) (.branch 22 (.leaf (17, [0])) (.leaf (23, [0, 1, 2, 3])))
def zp_48 : List (zPo × List (Nat ⊕ (Nat × zL))) := [(([], [], [(8, [((1, []), zaI), ((2, []), zaI), ((5, []), .inr (.inr (.inr (.inl (0, 30)))))]), (13, [((1, []), zaI), ((3, []), .inr (.inr (.inr (.inl (0, 540)))))]), (16, []), (22, [((0, []), zaI), ((1, []), .inr (.inr (.inr (.inl (0, 1600))))), ((2, []), .inr (.inr (.inr (.inl (0, 1600))))), ((3, []), zaI)])], none), [])]
def zc_48 : zCt := (42, 45, [.inr (.inl 8), .inl (2, [])], [], [], .branch 13 (.branch 8 (.leaf (8, 1, 1600, .inl ((-128), 127), [])) (.branch 9 (.leaf (9, 101, 8, .inr 3, [((0, []), .inr (.inl 9)), ((1, []), zaI), ((2, []), zaI), ((3, []), .inr (.inl 22)), ((5, []), .inr (.inr (.inr (.inl (0, 30)))))])) (.leaf (10, 102, 11, .inr 3, [((1, []), .inr (.inl 13))])))) (.branch 16 (.leaf (14, 104, 7, .inr 3, [((1, []), zaI), ((3, []), .inr (.inr (.inr (.inl (0, 540))))), ((5, []), .inr (.inl 16))])) (.branch 22 (.leaf (17, 0, 540, .inr 1, [])) (.leaf (23, 105, 6, .inr 3, [((0, []), zaI), ((1, []), .inr (.inr (.inr (.inl (0, 1600))))), ((2, []), .inr (.inr (.inr (.inl (0, 1600))))), ((3, []), zaI), ((4, []), .inr (.inl 7)), ((5, []), .inr (.inr (.inr (.inl (0, 1600)))))])))), zw_48, [], zp_48.map (fun p => p.1))
def zu_48 : List zCu := []
def zs_48 : List zCt := [zc_47, zc_5]
theorem za_48 : zwin zw_48 zc_48.2.2.2.2.2.1 = true := by decide +kernel
theorem z0_48 : zst0 mi_P zw_48 [] [] (fun d y as t en => zcal zw_48 d y as t en zs_48) zc_48 zp_48 zu_48 470 = true := by decide +kernel
theorem zk_48 : zu_48.all (zck mi_P zc_48.2.1 zw_48 false [] [] (fun d y as t en => zcal zw_48 d y as t en zs_48) zc_48.2.2.2.1.length zc_48.2.2.2.1 zc_48.2.2.2.2.2.1 zp_48 zu_48 470) = true := by decide +kernel
theorem zt_48 {S : Nat × (Nat → Int32)} : zCtr mi_P S zTt zc_48 := by
  have hc : ∀ c ∈ zs_48, zCtr mi_P S zTt c := by
    intro c hc
    simp only [zs_48, List.mem_cons, List.not_mem_nil, or_false] at hc
    rcases hc with rfl | rfl
    · exact zt_47
    · exact zt_5
  exact zCtr_of (Om := zTt) (ct := zc_48) (ps := zp_48) (fun _ _ _ _ => trivial) rfl hc za_48 z0_48 zk_48
/-- L$Reader.readOne(I)V -/
def zw_49 : zW := .branch 16 (.branch 13 (.leaf (9, [1, 2, 5])) (.leaf (14, [1, 3]))) (.branch 22 (.leaf (17, [0])) (.leaf (23, [0, 1, 2, 3])))
def zp_49 : List (zPo × List (Nat ⊕ (Nat × zL))) := [(([], [], [(8, [((1, []), zaI), ((2, []), zaI), ((5, []), .inr (.inr (.inr (.inl (0, 30)))))]), (13, [((1, []), zaI), ((3, []), .inr (.inr (.inr (.inl (0, 540)))))]), (16, []), (22, [((0, []), zaI), ((1, []), .inr (.inr (.inr (.inl (0, 1600))))), ((2, []), .inr (.inr (.inr (.inl (0, 1600))))), ((3, []), zaI)])], none), [])]
def zc_49 : zCt := (41, 46, [.inr (.inl 8), .inl (2, [])], [], [], .branch 13 (.branch 8 (.leaf (8, 1, 1600, .inl ((-128), 127), [])) (.branch 9 (.leaf (9, 101, 8, .inr 3, [((0, []), .inr (.inl 9)), ((1, []), zaI), ((2, []), zaI), ((3, []), .inr (.inl 22)), ((5, []), .inr (.inr (.inr (.inl (0, 30)))))])) (.leaf (10, 102, 11, .inr 3, [((1, []), .inr (.inl 13))])))) (.branch 16 (.leaf (14, 104, 7, .inr 3, [((1, []), zaI), ((3, []), .inr (.inr (.inr (.inl (0, 540))))), ((5, []), .inr (.inl 16))])) (.branch 22 (.leaf (17, 0, 540, .inr 1, [])) (.leaf (23, 105, 6, .inr 3, [((0, []), zaI), ((1, []), .inr (.inr (.inr (.inl (0, 1600))))), ((2, []), .inr (.inr (.inr (.inl (0, 1600))))), ((3, []), zaI), ((4, []), .inr (.inl 7)), ((5, []), .inr (.inr (.inr (.inl (0, 1600)))))])))), zw_49, [], zp_49.map (fun p => p.1))
def zu_49 : List zCu := []
def zs_49 : List zCt := [zc_5, zc_42, zc_48]
theorem za_49 : zwin zw_49 zc_49.2.2.2.2.2.1 = true := by decide +kernel
theorem z0_49 : zst0 mi_P zw_49 [] [] (fun d y as t en => zcal zw_49 d y as t en zs_49) zc_49 zp_49 zu_49 296 = true := by decide +kernel
theorem zk_49 : zu_49.all (zck mi_P zc_49.2.1 zw_49 false [] [] (fun d y as t en => zcal zw_49 d y as t en zs_49) zc_49.2.2.2.1.length zc_49.2.2.2.1 zc_49.2.2.2.2.2.1 zp_49 zu_49 296) = true := by decide +kernel
theorem zt_49 {S : Nat × (Nat → Int32)} : zCtr mi_P S zTt zc_49 := by
  have hc : ∀ c ∈ zs_49, zCtr mi_P S zTt c := by
    intro c hc
    simp only [zs_49, List.mem_cons, List.not_mem_nil, or_false] at hc
    rcases hc with rfl | rfl | rfl
    · exact zt_5
    · exact zt_42
    · exact zt_48
  exact zCtr_of (Om := zTt) (ct := zc_49) (ps := zp_49) (fun _ _ _ _ => trivial) rfl hc za_49 z0_49 zk_49
/-- L$Reader.readAnds(I)V -/
def zw_50 : zW := .branch 16 (.branch 13 (.leaf (9, [1, 2, 5])) (.leaf (14, [1, 3]))) (.branch 22 (.leaf (17, [0])) (.leaf (23, [0, 1, 2, 3])))
def zp_50 : List (zPo × List (Nat ⊕ (Nat × zL))) := [(([], [], [(8, [((1, []), zaI), ((2, []), zaI), ((5, []), .inr (.inr (.inr (.inl (0, 30)))))]), (13, [((1, []), zaI), ((3, []), .inr (.inr (.inr (.inl (0, 540)))))]), (16, []), (22, [((0, []), zaI), ((1, []), .inr (.inr (.inr (.inl (0, 1600))))), ((2, []), .inr (.inr (.inr (.inl (0, 1600))))), ((3, []), zaI)])], none), [])]
def zc_50 : zCt := (40, 47, [.inr (.inl 8), .inl (2, [])], [], [], .branch 13 (.branch 8 (.leaf (8, 1, 1600, .inl ((-128), 127), [])) (.branch 9 (.leaf (9, 101, 8, .inr 3, [((0, []), .inr (.inl 9)), ((1, []), zaI), ((2, []), zaI), ((3, []), .inr (.inl 22)), ((5, []), .inr (.inr (.inr (.inl (0, 30)))))])) (.leaf (10, 102, 11, .inr 3, [((1, []), .inr (.inl 13))])))) (.branch 16 (.leaf (14, 104, 7, .inr 3, [((1, []), zaI), ((3, []), .inr (.inr (.inr (.inl (0, 540))))), ((5, []), .inr (.inl 16))])) (.branch 22 (.leaf (17, 0, 540, .inr 1, [])) (.leaf (23, 105, 6, .inr 3, [((0, []), zaI), ((1, []), .inr (.inr (.inr (.inl (0, 1600))))), ((2, []), .inr (.inr (.inr (.inl (0, 1600))))), ((3, []), zaI), ((4, []), .inr (.inl 7)), ((5, []), .inr (.inr (.inr (.inl (0, 1600)))))])))), zw_50, [], zp_50.map (fun p => p.1))
def zu_50 : List zCu := [(([(40, 5, [(2, .inl (0, [(0, 1)])), (0, .inr (.inl 8)), (1, .inl (2, []))], [])], .branch 13 (.branch 8 (.leaf (8, 1, 1600, .inl ((-128), 127), [])) (.branch 9 (.leaf (9, 101, 8, .inr 3, [((0, []), .inr (.inl 9)), ((3, []), .inr (.inl 22)), ((1, []), zaI), ((2, []), zaI), ((5, []), .inr (.inr (.inr (.inl (0, 30)))))])) (.leaf (10, 102, 11, .inr 3, [((1, []), .inr (.inl 13))])))) (.branch 16 (.leaf (14, 104, 7, .inr 3, [((5, []), .inr (.inl 16)), ((1, []), zaI), ((3, []), .inr (.inr (.inr (.inl (0, 540)))))])) (.branch 22 (.leaf (17, 0, 540, .inr 1, [])) (.leaf (23, 105, 6, .inr 3, [((4, []), .inr (.inl 7)), ((5, []), .inr (.inr (.inr (.inl (0, 1600))))), ((0, []), zaI), ((1, []), .inr (.inr (.inr (.inl (0, 1600))))), ((2, []), .inr (.inr (.inr (.inl (0, 1600))))), ((3, []), zaI)])))), [(0, 30)], [], []), [.inl (0, 2)], (30, [(0, (-1))]))]
def zs_50 : List zCt := [zc_49, zc_5]
theorem za_50 : zwin zw_50 zc_50.2.2.2.2.2.1 = true := by decide +kernel
theorem z0_50 : zst0 mi_P zw_50 [] [] (fun d y as t en => zcal zw_50 d y as t en zs_50) zc_50 zp_50 zu_50 292 = true := by decide +kernel
theorem zk_50 : zu_50.all (zck mi_P zc_50.2.1 zw_50 false [] [] (fun d y as t en => zcal zw_50 d y as t en zs_50) zc_50.2.2.2.1.length zc_50.2.2.2.1 zc_50.2.2.2.2.2.1 zp_50 zu_50 292) = true := by decide +kernel
theorem zt_50 {S : Nat × (Nat → Int32)} : zCtr mi_P S zTt zc_50 := by
  have hc : ∀ c ∈ zs_50, zCtr mi_P S zTt c := by
    intro c hc
    simp only [zs_50, List.mem_cons, List.not_mem_nil, or_false] at hc
    rcases hc with rfl | rfl
    · exact zt_49
    · exact zt_5
  exact zCtr_of (Om := zTt) (ct := zc_50) (ps := zp_50) (fun _ _ _ _ => trivial) rfl hc za_50 z0_50 zk_50
/-- L$Reader.readOrs(I)V -/
def zw_51 : zW := .branch 16 (.branch 13 (.leaf (9, [1, 2, 5])) (.leaf (14, [1, 3]))) (.branch 22 (.leaf (17, [0])) (.leaf (23, [0, 1, 2, 3])))
def zp_51 : List (zPo × List (Nat ⊕ (Nat × zL))) := [(([], [], [(8, [((1, []), zaI), ((2, []), zaI), ((5, []), .inr (.inr (.inr (.inl (0, 30)))))]), (13, [((1, []), zaI), ((3, []), .inr (.inr (.inr (.inl (0, 540)))))]), (16, []), (22, [((0, []), zaI), ((1, []), .inr (.inr (.inr (.inl (0, 1600))))), ((2, []), .inr (.inr (.inr (.inl (0, 1600))))), ((3, []), zaI)])], none), [])]
def zc_51 : zCt := (39, 48, [.inr (.inl 8), .inl (2, [])], [], [], .branch 13 (.branch 8 (.leaf (8, 1, 1600, .inl ((-128), 127), [])) (.branch 9 (.leaf (9, 101, 8, .inr 3, [((0, []), .inr (.inl 9)), ((1, []), zaI), ((2, []), zaI), ((3, []), .inr (.inl 22)), ((5, []), .inr (.inr (.inr (.inl (0, 30)))))])) (.leaf (10, 102, 11, .inr 3, [((1, []), .inr (.inl 13))])))) (.branch 16 (.leaf (14, 104, 7, .inr 3, [((1, []), zaI), ((3, []), .inr (.inr (.inr (.inl (0, 540))))), ((5, []), .inr (.inl 16))])) (.branch 22 (.leaf (17, 0, 540, .inr 1, [])) (.leaf (23, 105, 6, .inr 3, [((0, []), zaI), ((1, []), .inr (.inr (.inr (.inl (0, 1600))))), ((2, []), .inr (.inr (.inr (.inl (0, 1600))))), ((3, []), zaI), ((4, []), .inr (.inl 7)), ((5, []), .inr (.inr (.inr (.inl (0, 1600)))))])))), zw_51, [], zp_51.map (fun p => p.1))
def zu_51 : List zCu := [(([(39, 5, [(2, .inl (0, [(0, 1)])), (0, .inr (.inl 8)), (1, .inl (2, []))], [])], .branch 13 (.branch 8 (.leaf (8, 1, 1600, .inl ((-128), 127), [])) (.branch 9 (.leaf (9, 101, 8, .inr 3, [((0, []), .inr (.inl 9)), ((3, []), .inr (.inl 22)), ((1, []), zaI), ((2, []), zaI), ((5, []), .inr (.inr (.inr (.inl (0, 30)))))])) (.leaf (10, 102, 11, .inr 3, [((1, []), .inr (.inl 13))])))) (.branch 16 (.leaf (14, 104, 7, .inr 3, [((5, []), .inr (.inl 16)), ((1, []), zaI), ((3, []), .inr (.inr (.inr (.inl (0, 540)))))])) (.branch 22 (.leaf (17, 0, 540, .inr 1, [])) (.leaf (23, 105, 6, .inr 3, [((4, []), .inr (.inl 7)), ((5, []), .inr (.inr (.inr (.inl (0, 1600))))), ((0, []), zaI), ((1, []), .inr (.inr (.inr (.inl (0, 1600))))), ((2, []), .inr (.inr (.inr (.inl (0, 1600))))), ((3, []), zaI)])))), [(0, 30)], [], []), [.inl (0, 2)], (30, [(0, (-1))]))]
def zs_51 : List zCt := [zc_50, zc_5]
theorem za_51 : zwin zw_51 zc_51.2.2.2.2.2.1 = true := by decide +kernel
theorem z0_51 : zst0 mi_P zw_51 [] [] (fun d y as t en => zcal zw_51 d y as t en zs_51) zc_51 zp_51 zu_51 292 = true := by decide +kernel
theorem zk_51 : zu_51.all (zck mi_P zc_51.2.1 zw_51 false [] [] (fun d y as t en => zcal zw_51 d y as t en zs_51) zc_51.2.2.2.1.length zc_51.2.2.2.1 zc_51.2.2.2.2.2.1 zp_51 zu_51 292) = true := by decide +kernel
theorem zt_51 {S : Nat × (Nat → Int32)} : zCtr mi_P S zTt zc_51 := by
  have hc : ∀ c ∈ zs_51, zCtr mi_P S zTt c := by
    intro c hc
    simp only [zs_51, List.mem_cons, List.not_mem_nil, or_false] at hc
    rcases hc with rfl | rfl
    · exact zt_50
    · exact zt_5
  exact zCtr_of (Om := zTt) (ct := zc_51) (ps := zp_51) (fun _ _ _ _ => trivial) rfl hc za_51 z0_51 zk_51
/-- L$Reader.readUnit(I)V -/
def zw_52 : zW := .branch 16 (.branch 13 (.leaf (9, [1, 2, 5])) (.leaf (14, [1, 3]))) (.branch 22 (.leaf (17, [0])) (.leaf (23, [0, 1, 2, 3])))
def zp_52 : List (zPo × List (Nat ⊕ (Nat × zL))) := [(([], [], [(8, [((1, []), zaI), ((2, []), zaI), ((5, []), .inr (.inr (.inr (.inl (0, 30)))))]), (13, [((1, []), zaI), ((3, []), .inr (.inr (.inr (.inl (0, 540)))))]), (16, []), (22, [((0, []), zaI), ((1, []), .inr (.inr (.inr (.inl (0, 1600))))), ((2, []), .inr (.inr (.inr (.inl (0, 1600))))), ((3, []), zaI)])], none), [])]
def zc_52 : zCt := (45, 49, [.inr (.inl 8), .inl (1, [])], [], [], .branch 13 (.branch 8 (.leaf (8, 1, 1600, .inl ((-128), 127), [])) (.branch 9 (.leaf (9, 101, 8, .inr 3, [((0, []), .inr (.inl 9)), ((1, []), zaI), ((2, []), zaI), ((3, []), .inr (.inl 22)), ((5, []), .inr (.inr (.inr (.inl (0, 30)))))])) (.leaf (10, 102, 11, .inr 3, [((1, []), .inr (.inl 13))])))) (.branch 16 (.leaf (14, 104, 7, .inr 3, [((1, []), zaI), ((3, []), .inr (.inr (.inr (.inl (0, 540))))), ((5, []), .inr (.inl 16))])) (.branch 22 (.leaf (17, 0, 540, .inr 1, [])) (.leaf (23, 105, 6, .inr 3, [((0, []), zaI), ((1, []), .inr (.inr (.inr (.inl (0, 1600))))), ((2, []), .inr (.inr (.inr (.inl (0, 1600))))), ((3, []), zaI), ((4, []), .inr (.inl 7)), ((5, []), .inr (.inr (.inr (.inl (0, 1600)))))])))), zw_52, [], zp_52.map (fun p => p.1))
def zu_52 : List zCu := []
def zs_52 : List zCt := [zc_7, zc_5, zc_51]
theorem za_52 : zwin zw_52 zc_52.2.2.2.2.2.1 = true := by decide +kernel
theorem z0_52 : zst0 mi_P zw_52 [] [] (fun d y as t en => zcal zw_52 d y as t en zs_52) zc_52 zp_52 zu_52 916 = true := by decide +kernel
theorem zk_52 : zu_52.all (zck mi_P zc_52.2.1 zw_52 false [] [] (fun d y as t en => zcal zw_52 d y as t en zs_52) zc_52.2.2.2.1.length zc_52.2.2.2.1 zc_52.2.2.2.2.2.1 zp_52 zu_52 916) = true := by decide +kernel
theorem zt_52 {S : Nat × (Nat → Int32)} : zCtr mi_P S zTt zc_52 := by
  have hc : ∀ c ∈ zs_52, zCtr mi_P S zTt c := by
    intro c hc
    simp only [zs_52, List.mem_cons, List.not_mem_nil, or_false] at hc
    rcases hc with rfl | rfl | rfl
    · exact zt_7
    · exact zt_5
    · exact zt_51
  exact zCtr_of (Om := zTt) (ct := zc_52) (ps := zp_52) (fun _ _ _ _ => trivial) rfl hc za_52 z0_52 zk_52
/-- L$Reader.readTerm(I)V -/
def zw_53 : zW := .branch 16 (.branch 13 (.leaf (9, [1, 2, 5])) (.leaf (14, [1, 3]))) (.branch 22 (.leaf (17, [0])) (.leaf (23, [0, 1, 2, 3])))
def zp_53 : List (zPo × List (Nat ⊕ (Nat × zL))) := [(([], [], [(8, [((1, []), zaI), ((2, []), zaI), ((5, []), .inr (.inr (.inr (.inl (0, 30)))))]), (13, [((1, []), zaI), ((3, []), .inr (.inr (.inr (.inl (0, 540)))))]), (16, []), (22, [((0, []), zaI), ((1, []), .inr (.inr (.inr (.inl (0, 1600))))), ((2, []), .inr (.inr (.inr (.inl (0, 1600))))), ((3, []), zaI)])], none), [])]
def zc_53 : zCt := (44, 50, [.inr (.inl 8), .inl (1, [])], [], [], .branch 13 (.branch 8 (.leaf (8, 1, 1600, .inl ((-128), 127), [])) (.branch 9 (.leaf (9, 101, 8, .inr 3, [((0, []), .inr (.inl 9)), ((1, []), zaI), ((2, []), zaI), ((3, []), .inr (.inl 22)), ((5, []), .inr (.inr (.inr (.inl (0, 30)))))])) (.leaf (10, 102, 11, .inr 3, [((1, []), .inr (.inl 13))])))) (.branch 16 (.leaf (14, 104, 7, .inr 3, [((1, []), zaI), ((3, []), .inr (.inr (.inr (.inl (0, 540))))), ((5, []), .inr (.inl 16))])) (.branch 22 (.leaf (17, 0, 540, .inr 1, [])) (.leaf (23, 105, 6, .inr 3, [((0, []), zaI), ((1, []), .inr (.inr (.inr (.inl (0, 1600))))), ((2, []), .inr (.inr (.inr (.inl (0, 1600))))), ((3, []), zaI), ((4, []), .inr (.inl 7)), ((5, []), .inr (.inr (.inr (.inl (0, 1600)))))])))), zw_53, [], zp_53.map (fun p => p.1))
def zu_53 : List zCu := [(([(44, 5, [(2, .inl (0, [(0, 1)])), (0, .inr (.inl 8)), (1, .inl (1, []))], [])], .branch 13 (.branch 8 (.leaf (8, 1, 1600, .inl ((-128), 127), [])) (.branch 9 (.leaf (9, 101, 8, .inr 3, [((0, []), .inr (.inl 9)), ((3, []), .inr (.inl 22)), ((1, []), zaI), ((2, []), zaI), ((5, []), .inr (.inr (.inr (.inl (0, 30)))))])) (.leaf (10, 102, 11, .inr 3, [((1, []), .inr (.inl 13))])))) (.branch 16 (.leaf (14, 104, 7, .inr 3, [((5, []), .inr (.inl 16)), ((1, []), zaI), ((3, []), .inr (.inr (.inr (.inl (0, 540)))))])) (.branch 22 (.leaf (17, 0, 540, .inr 1, [])) (.leaf (23, 105, 6, .inr 3, [((4, []), .inr (.inl 7)), ((5, []), .inr (.inr (.inr (.inl (0, 1600))))), ((0, []), zaI), ((1, []), .inr (.inr (.inr (.inl (0, 1600))))), ((2, []), .inr (.inr (.inr (.inl (0, 1600))))), ((3, []), zaI)])))), [(0, 30)], [], []), [.inl (0, 2)], (30, [(0, (-1))]))]
def zs_53 : List zCt := [zc_52, zc_5]
theorem za_53 : zwin zw_53 zc_53.2.2.2.2.2.1 = true := by decide +kernel
theorem z0_53 : zst0 mi_P zw_53 [] [] (fun d y as t en => zcal zw_53 d y as t en zs_53) zc_53 zp_53 zu_53 548 = true := by decide +kernel
theorem zk_53 : zu_53.all (zck mi_P zc_53.2.1 zw_53 false [] [] (fun d y as t en => zcal zw_53 d y as t en zs_53) zc_53.2.2.2.1.length zc_53.2.2.2.1 zc_53.2.2.2.2.2.1 zp_53 zu_53 548) = true := by decide +kernel
theorem zt_53 {S : Nat × (Nat → Int32)} : zCtr mi_P S zTt zc_53 := by
  have hc : ∀ c ∈ zs_53, zCtr mi_P S zTt c := by
    intro c hc
    simp only [zs_53, List.mem_cons, List.not_mem_nil, or_false] at hc
    rcases hc with rfl | rfl
    · exact zt_52
    · exact zt_5
  exact zCtr_of (Om := zTt) (ct := zc_53) (ps := zp_53) (fun _ _ _ _ => trivial) rfl hc za_53 z0_53 zk_53
/-- L$Reader.readSum(I)V -/
def zw_54 : zW := .branch 16 (.branch 13 (.leaf (9, [1, 2, 5])) (.leaf (14, [1, 3]))) (.branch 22 (.leaf (17, [0])) (.leaf (23, [0, 1, 2, 3])))
def zp_54 : List (zPo × List (Nat ⊕ (Nat × zL))) := [(([], [], [(8, [((1, []), zaI), ((2, []), zaI), ((5, []), .inr (.inr (.inr (.inl (0, 30)))))]), (13, [((1, []), zaI), ((3, []), .inr (.inr (.inr (.inl (0, 540)))))]), (16, []), (22, [((0, []), zaI), ((1, []), .inr (.inr (.inr (.inl (0, 1600))))), ((2, []), .inr (.inr (.inr (.inl (0, 1600))))), ((3, []), zaI)])], none), [])]
def zc_54 : zCt := (43, 51, [.inr (.inl 8), .inl (1, [])], [], [], .branch 13 (.branch 8 (.leaf (8, 1, 1600, .inl ((-128), 127), [])) (.branch 9 (.leaf (9, 101, 8, .inr 3, [((0, []), .inr (.inl 9)), ((1, []), zaI), ((2, []), zaI), ((3, []), .inr (.inl 22)), ((5, []), .inr (.inr (.inr (.inl (0, 30)))))])) (.leaf (10, 102, 11, .inr 3, [((1, []), .inr (.inl 13))])))) (.branch 16 (.leaf (14, 104, 7, .inr 3, [((1, []), zaI), ((3, []), .inr (.inr (.inr (.inl (0, 540))))), ((5, []), .inr (.inl 16))])) (.branch 22 (.leaf (17, 0, 540, .inr 1, [])) (.leaf (23, 105, 6, .inr 3, [((0, []), zaI), ((1, []), .inr (.inr (.inr (.inl (0, 1600))))), ((2, []), .inr (.inr (.inr (.inl (0, 1600))))), ((3, []), zaI), ((4, []), .inr (.inl 7)), ((5, []), .inr (.inr (.inr (.inl (0, 1600)))))])))), zw_54, [], zp_54.map (fun p => p.1))
def zu_54 : List zCu := [(([(43, 5, [(2, .inl (0, [(0, 1)])), (0, .inr (.inl 8)), (1, .inl (1, []))], [])], .branch 13 (.branch 8 (.leaf (8, 1, 1600, .inl ((-128), 127), [])) (.branch 9 (.leaf (9, 101, 8, .inr 3, [((0, []), .inr (.inl 9)), ((3, []), .inr (.inl 22)), ((1, []), zaI), ((2, []), zaI), ((5, []), .inr (.inr (.inr (.inl (0, 30)))))])) (.leaf (10, 102, 11, .inr 3, [((1, []), .inr (.inl 13))])))) (.branch 16 (.leaf (14, 104, 7, .inr 3, [((5, []), .inr (.inl 16)), ((1, []), zaI), ((3, []), .inr (.inr (.inr (.inl (0, 540)))))])) (.branch 22 (.leaf (17, 0, 540, .inr 1, [])) (.leaf (23, 105, 6, .inr 3, [((4, []), .inr (.inl 7)), ((5, []), .inr (.inr (.inr (.inl (0, 1600))))), ((0, []), zaI), ((1, []), .inr (.inr (.inr (.inl (0, 1600))))), ((2, []), .inr (.inr (.inr (.inl (0, 1600))))), ((3, []), zaI)])))), [(0, 30)], [], []), [.inl (0, 2)], (30, [(0, (-1))]))]
def zs_54 : List zCt := [zc_53, zc_5]
theorem za_54 : zwin zw_54 zc_54.2.2.2.2.2.1 = true := by decide +kernel
theorem z0_54 : zst0 mi_P zw_54 [] [] (fun d y as t en => zcal zw_54 d y as t en zs_54) zc_54 zp_54 zu_54 408 = true := by decide +kernel
theorem zk_54 : zu_54.all (zck mi_P zc_54.2.1 zw_54 false [] [] (fun d y as t en => zcal zw_54 d y as t en zs_54) zc_54.2.2.2.1.length zc_54.2.2.2.1 zc_54.2.2.2.2.2.1 zp_54 zu_54 408) = true := by decide +kernel
theorem zt_54 {S : Nat × (Nat → Int32)} : zCtr mi_P S zTt zc_54 := by
  have hc : ∀ c ∈ zs_54, zCtr mi_P S zTt c := by
    intro c hc
    simp only [zs_54, List.mem_cons, List.not_mem_nil, or_false] at hc
    rcases hc with rfl | rfl
    · exact zt_53
    · exact zt_5
  exact zCtr_of (Om := zTt) (ct := zc_54) (ps := zp_54) (fun _ _ _ _ => trivial) rfl hc za_54 z0_54 zk_54
/-- L$Reader.readRelation(I)V -/
def zw_55 : zW := .branch 16 (.branch 13 (.leaf (9, [1, 2, 5])) (.leaf (14, [1, 3]))) (.branch 22 (.leaf (17, [0])) (.leaf (23, [0, 1, 2, 3])))
def zp_55 : List (zPo × List (Nat ⊕ (Nat × zL))) := [(([], [], [(8, [((1, []), zaI), ((2, []), zaI), ((5, []), .inr (.inr (.inr (.inl (0, 30)))))]), (13, [((1, []), zaI), ((3, []), .inr (.inr (.inr (.inl (0, 540)))))]), (16, []), (22, [((0, []), zaI), ((1, []), .inr (.inr (.inr (.inl (0, 1600))))), ((2, []), .inr (.inr (.inr (.inl (0, 1600))))), ((3, []), zaI)])], none), [])]
def zc_55 : zCt := (42, 52, [.inr (.inl 8), .inl (1, [])], [], [], .branch 13 (.branch 8 (.leaf (8, 1, 1600, .inl ((-128), 127), [])) (.branch 9 (.leaf (9, 101, 8, .inr 3, [((0, []), .inr (.inl 9)), ((1, []), zaI), ((2, []), zaI), ((3, []), .inr (.inl 22)), ((5, []), .inr (.inr (.inr (.inl (0, 30)))))])) (.leaf (10, 102, 11, .inr 3, [((1, []), .inr (.inl 13))])))) (.branch 16 (.leaf (14, 104, 7, .inr 3, [((1, []), zaI), ((3, []), .inr (.inr (.inr (.inl (0, 540))))), ((5, []), .inr (.inl 16))])) (.branch 22 (.leaf (17, 0, 540, .inr 1, [])) (.leaf (23, 105, 6, .inr 3, [((0, []), zaI), ((1, []), .inr (.inr (.inr (.inl (0, 1600))))), ((2, []), .inr (.inr (.inr (.inl (0, 1600))))), ((3, []), zaI), ((4, []), .inr (.inl 7)), ((5, []), .inr (.inr (.inr (.inl (0, 1600)))))])))), zw_55, [], zp_55.map (fun p => p.1))
def zu_55 : List zCu := []
def zs_55 : List zCt := [zc_54, zc_5]
theorem za_55 : zwin zw_55 zc_55.2.2.2.2.2.1 = true := by decide +kernel
theorem z0_55 : zst0 mi_P zw_55 [] [] (fun d y as t en => zcal zw_55 d y as t en zs_55) zc_55 zp_55 zu_55 470 = true := by decide +kernel
theorem zk_55 : zu_55.all (zck mi_P zc_55.2.1 zw_55 false [] [] (fun d y as t en => zcal zw_55 d y as t en zs_55) zc_55.2.2.2.1.length zc_55.2.2.2.1 zc_55.2.2.2.2.2.1 zp_55 zu_55 470) = true := by decide +kernel
theorem zt_55 {S : Nat × (Nat → Int32)} : zCtr mi_P S zTt zc_55 := by
  have hc : ∀ c ∈ zs_55, zCtr mi_P S zTt c := by
    intro c hc
    simp only [zs_55, List.mem_cons, List.not_mem_nil, or_false] at hc
    rcases hc with rfl | rfl
    · exact zt_54
    · exact zt_5
  exact zCtr_of (Om := zTt) (ct := zc_55) (ps := zp_55) (fun _ _ _ _ => trivial) rfl hc za_55 z0_55 zk_55
/-- L$Reader.readOne(I)V -/
def zw_56 : zW := .branch 16 (.branch 13 (.leaf (9, [1, 2, 5])) (.leaf (14, [1, 3]))) (.branch 22 (.leaf (17, [0])) (.leaf (23, [0, 1, 2, 3])))
def zp_56 : List (zPo × List (Nat ⊕ (Nat × zL))) := [(([], [], [(8, [((1, []), zaI), ((2, []), zaI), ((5, []), .inr (.inr (.inr (.inl (0, 30)))))]), (13, [((1, []), zaI), ((3, []), .inr (.inr (.inr (.inl (0, 540)))))]), (16, []), (22, [((0, []), zaI), ((1, []), .inr (.inr (.inr (.inl (0, 1600))))), ((2, []), .inr (.inr (.inr (.inl (0, 1600))))), ((3, []), zaI)])], none), [])]
def zc_56 : zCt := (41, 53, [.inr (.inl 8), .inl (1, [])], [], [], .branch 13 (.branch 8 (.leaf (8, 1, 1600, .inl ((-128), 127), [])) (.branch 9 (.leaf (9, 101, 8, .inr 3, [((0, []), .inr (.inl 9)), ((1, []), zaI), ((2, []), zaI), ((3, []), .inr (.inl 22)), ((5, []), .inr (.inr (.inr (.inl (0, 30)))))])) (.leaf (10, 102, 11, .inr 3, [((1, []), .inr (.inl 13))])))) (.branch 16 (.leaf (14, 104, 7, .inr 3, [((1, []), zaI), ((3, []), .inr (.inr (.inr (.inl (0, 540))))), ((5, []), .inr (.inl 16))])) (.branch 22 (.leaf (17, 0, 540, .inr 1, [])) (.leaf (23, 105, 6, .inr 3, [((0, []), zaI), ((1, []), .inr (.inr (.inr (.inl (0, 1600))))), ((2, []), .inr (.inr (.inr (.inl (0, 1600))))), ((3, []), zaI), ((4, []), .inr (.inl 7)), ((5, []), .inr (.inr (.inr (.inl (0, 1600)))))])))), zw_56, [], zp_56.map (fun p => p.1))
def zu_56 : List zCu := []
def zs_56 : List zCt := [zc_5, zc_49, zc_55]
theorem za_56 : zwin zw_56 zc_56.2.2.2.2.2.1 = true := by decide +kernel
theorem z0_56 : zst0 mi_P zw_56 [] [] (fun d y as t en => zcal zw_56 d y as t en zs_56) zc_56 zp_56 zu_56 296 = true := by decide +kernel
theorem zk_56 : zu_56.all (zck mi_P zc_56.2.1 zw_56 false [] [] (fun d y as t en => zcal zw_56 d y as t en zs_56) zc_56.2.2.2.1.length zc_56.2.2.2.1 zc_56.2.2.2.2.2.1 zp_56 zu_56 296) = true := by decide +kernel
theorem zt_56 {S : Nat × (Nat → Int32)} : zCtr mi_P S zTt zc_56 := by
  have hc : ∀ c ∈ zs_56, zCtr mi_P S zTt c := by
    intro c hc
    simp only [zs_56, List.mem_cons, List.not_mem_nil, or_false] at hc
    rcases hc with rfl | rfl | rfl
    · exact zt_5
    · exact zt_49
    · exact zt_55
  exact zCtr_of (Om := zTt) (ct := zc_56) (ps := zp_56) (fun _ _ _ _ => trivial) rfl hc za_56 z0_56 zk_56
/-- L$Reader.readAnds(I)V -/
def zw_57 : zW := .branch 16 (.branch 13 (.leaf (9, [1, 2, 5])) (.leaf (14, [1, 3]))) (.branch 22 (.leaf (17, [0])) (.leaf (23, [0, 1, 2, 3])))
def zp_57 : List (zPo × List (Nat ⊕ (Nat × zL))) := [(([], [], [(8, [((1, []), zaI), ((2, []), zaI), ((5, []), .inr (.inr (.inr (.inl (0, 30)))))]), (13, [((1, []), zaI), ((3, []), .inr (.inr (.inr (.inl (0, 540)))))]), (16, []), (22, [((0, []), zaI), ((1, []), .inr (.inr (.inr (.inl (0, 1600))))), ((2, []), .inr (.inr (.inr (.inl (0, 1600))))), ((3, []), zaI)])], none), [])]
def zc_57 : zCt := (40, 54, [.inr (.inl 8), .inl (1, [])], [], [], .branch 13 (.branch 8 (.leaf (8, 1, 1600, .inl ((-128), 127), [])) (.branch 9 (.leaf (9, 101, 8, .inr 3, [((0, []), .inr (.inl 9)), ((1, []), zaI), ((2, []), zaI), ((3, []), .inr (.inl 22)), ((5, []), .inr (.inr (.inr (.inl (0, 30)))))])) (.leaf (10, 102, 11, .inr 3, [((1, []), .inr (.inl 13))])))) (.branch 16 (.leaf (14, 104, 7, .inr 3, [((1, []), zaI), ((3, []), .inr (.inr (.inr (.inl (0, 540))))), ((5, []), .inr (.inl 16))])) (.branch 22 (.leaf (17, 0, 540, .inr 1, [])) (.leaf (23, 105, 6, .inr 3, [((0, []), zaI), ((1, []), .inr (.inr (.inr (.inl (0, 1600))))), ((2, []), .inr (.inr (.inr (.inl (0, 1600))))), ((3, []), zaI), ((4, []), .inr (.inl 7)), ((5, []), .inr (.inr (.inr (.inl (0, 1600)))))])))), zw_57, [], zp_57.map (fun p => p.1))
def zu_57 : List zCu := [(([(40, 5, [(2, .inl (0, [(0, 1)])), (0, .inr (.inl 8)), (1, .inl (1, []))], [])], .branch 13 (.branch 8 (.leaf (8, 1, 1600, .inl ((-128), 127), [])) (.branch 9 (.leaf (9, 101, 8, .inr 3, [((0, []), .inr (.inl 9)), ((3, []), .inr (.inl 22)), ((1, []), zaI), ((2, []), zaI), ((5, []), .inr (.inr (.inr (.inl (0, 30)))))])) (.leaf (10, 102, 11, .inr 3, [((1, []), .inr (.inl 13))])))) (.branch 16 (.leaf (14, 104, 7, .inr 3, [((5, []), .inr (.inl 16)), ((1, []), zaI), ((3, []), .inr (.inr (.inr (.inl (0, 540)))))])) (.branch 22 (.leaf (17, 0, 540, .inr 1, [])) (.leaf (23, 105, 6, .inr 3, [((4, []), .inr (.inl 7)), ((5, []), .inr (.inr (.inr (.inl (0, 1600))))), ((0, []), zaI), ((1, []), .inr (.inr (.inr (.inl (0, 1600))))), ((2, []), .inr (.inr (.inr (.inl (0, 1600))))), ((3, []), zaI)])))), [(0, 30)], [], []), [.inl (0, 2)], (30, [(0, (-1))]))]
def zs_57 : List zCt := [zc_56, zc_5]
theorem za_57 : zwin zw_57 zc_57.2.2.2.2.2.1 = true := by decide +kernel
theorem z0_57 : zst0 mi_P zw_57 [] [] (fun d y as t en => zcal zw_57 d y as t en zs_57) zc_57 zp_57 zu_57 292 = true := by decide +kernel
theorem zk_57 : zu_57.all (zck mi_P zc_57.2.1 zw_57 false [] [] (fun d y as t en => zcal zw_57 d y as t en zs_57) zc_57.2.2.2.1.length zc_57.2.2.2.1 zc_57.2.2.2.2.2.1 zp_57 zu_57 292) = true := by decide +kernel
theorem zt_57 {S : Nat × (Nat → Int32)} : zCtr mi_P S zTt zc_57 := by
  have hc : ∀ c ∈ zs_57, zCtr mi_P S zTt c := by
    intro c hc
    simp only [zs_57, List.mem_cons, List.not_mem_nil, or_false] at hc
    rcases hc with rfl | rfl
    · exact zt_56
    · exact zt_5
  exact zCtr_of (Om := zTt) (ct := zc_57) (ps := zp_57) (fun _ _ _ _ => trivial) rfl hc za_57 z0_57 zk_57
/-- L$Reader.readOrs(I)V -/
def zw_58 : zW := .branch 16 (.branch 13 (.leaf (9, [1, 2, 5])) (.leaf (14, [1, 3]))) (.branch 22 (.leaf (17, [0])) (.leaf (23, [0, 1, 2, 3])))
def zp_58 : List (zPo × List (Nat ⊕ (Nat × zL))) := [(([], [], [(8, [((1, []), zaI), ((2, []), zaI), ((5, []), .inr (.inr (.inr (.inl (0, 30)))))]), (13, [((1, []), zaI), ((3, []), .inr (.inr (.inr (.inl (0, 540)))))]), (16, []), (22, [((0, []), zaI), ((1, []), .inr (.inr (.inr (.inl (0, 1600))))), ((2, []), .inr (.inr (.inr (.inl (0, 1600))))), ((3, []), zaI)])], none), [])]
def zc_58 : zCt := (39, 55, [.inr (.inl 8), .inl (1, [])], [], [], .branch 13 (.branch 8 (.leaf (8, 1, 1600, .inl ((-128), 127), [])) (.branch 9 (.leaf (9, 101, 8, .inr 3, [((0, []), .inr (.inl 9)), ((1, []), zaI), ((2, []), zaI), ((3, []), .inr (.inl 22)), ((5, []), .inr (.inr (.inr (.inl (0, 30)))))])) (.leaf (10, 102, 11, .inr 3, [((1, []), .inr (.inl 13))])))) (.branch 16 (.leaf (14, 104, 7, .inr 3, [((1, []), zaI), ((3, []), .inr (.inr (.inr (.inl (0, 540))))), ((5, []), .inr (.inl 16))])) (.branch 22 (.leaf (17, 0, 540, .inr 1, [])) (.leaf (23, 105, 6, .inr 3, [((0, []), zaI), ((1, []), .inr (.inr (.inr (.inl (0, 1600))))), ((2, []), .inr (.inr (.inr (.inl (0, 1600))))), ((3, []), zaI), ((4, []), .inr (.inl 7)), ((5, []), .inr (.inr (.inr (.inl (0, 1600)))))])))), zw_58, [], zp_58.map (fun p => p.1))
def zu_58 : List zCu := [(([(39, 5, [(2, .inl (0, [(0, 1)])), (0, .inr (.inl 8)), (1, .inl (1, []))], [])], .branch 13 (.branch 8 (.leaf (8, 1, 1600, .inl ((-128), 127), [])) (.branch 9 (.leaf (9, 101, 8, .inr 3, [((0, []), .inr (.inl 9)), ((3, []), .inr (.inl 22)), ((1, []), zaI), ((2, []), zaI), ((5, []), .inr (.inr (.inr (.inl (0, 30)))))])) (.leaf (10, 102, 11, .inr 3, [((1, []), .inr (.inl 13))])))) (.branch 16 (.leaf (14, 104, 7, .inr 3, [((5, []), .inr (.inl 16)), ((1, []), zaI), ((3, []), .inr (.inr (.inr (.inl (0, 540)))))])) (.branch 22 (.leaf (17, 0, 540, .inr 1, [])) (.leaf (23, 105, 6, .inr 3, [((4, []), .inr (.inl 7)), ((5, []), .inr (.inr (.inr (.inl (0, 1600))))), ((0, []), zaI), ((1, []), .inr (.inr (.inr (.inl (0, 1600))))), ((2, []), .inr (.inr (.inr (.inl (0, 1600))))), ((3, []), zaI)])))), [(0, 30)], [], []), [.inl (0, 2)], (30, [(0, (-1))]))]
def zs_58 : List zCt := [zc_57, zc_5]
theorem za_58 : zwin zw_58 zc_58.2.2.2.2.2.1 = true := by decide +kernel
theorem z0_58 : zst0 mi_P zw_58 [] [] (fun d y as t en => zcal zw_58 d y as t en zs_58) zc_58 zp_58 zu_58 292 = true := by decide +kernel
theorem zk_58 : zu_58.all (zck mi_P zc_58.2.1 zw_58 false [] [] (fun d y as t en => zcal zw_58 d y as t en zs_58) zc_58.2.2.2.1.length zc_58.2.2.2.1 zc_58.2.2.2.2.2.1 zp_58 zu_58 292) = true := by decide +kernel
theorem zt_58 {S : Nat × (Nat → Int32)} : zCtr mi_P S zTt zc_58 := by
  have hc : ∀ c ∈ zs_58, zCtr mi_P S zTt c := by
    intro c hc
    simp only [zs_58, List.mem_cons, List.not_mem_nil, or_false] at hc
    rcases hc with rfl | rfl
    · exact zt_57
    · exact zt_5
  exact zCtr_of (Om := zTt) (ct := zc_58) (ps := zp_58) (fun _ _ _ _ => trivial) rfl hc za_58 z0_58 zk_58
/-- L$Reader.readUnit(I)V -/
def zw_59 : zW := .branch 16 (.branch 13 (.leaf (9, [1, 2, 5])) (.leaf (14, [1, 3]))) (.branch 22 (.leaf (17, [0])) (.leaf (23, [0, 1, 2, 3])))
def zp_59 : List (zPo × List (Nat ⊕ (Nat × zL))) := [(([], [], [(8, [((1, []), zaI), ((2, []), zaI), ((5, []), .inr (.inr (.inr (.inl (0, 30)))))]), (13, [((1, []), zaI), ((3, []), .inr (.inr (.inr (.inl (0, 540)))))]), (16, []), (22, [((0, []), zaI), ((1, []), .inr (.inr (.inr (.inl (0, 1600))))), ((2, []), .inr (.inr (.inr (.inl (0, 1600))))), ((3, []), zaI)])], none), [])]
def zc_59 : zCt := (45, 56, [.inr (.inl 8), .inl (0, [])], [], [], .branch 13 (.branch 8 (.leaf (8, 1, 1600, .inl ((-128), 127), [])) (.branch 9 (.leaf (9, 101, 8, .inr 3, [((0, []), .inr (.inl 9)), ((1, []), zaI), ((2, []), zaI), ((3, []), .inr (.inl 22)), ((5, []), .inr (.inr (.inr (.inl (0, 30)))))])) (.leaf (10, 102, 11, .inr 3, [((1, []), .inr (.inl 13))])))) (.branch 16 (.leaf (14, 104, 7, .inr 3, [((1, []), zaI), ((3, []), .inr (.inr (.inr (.inl (0, 540))))), ((5, []), .inr (.inl 16))])) (.branch 22 (.leaf (17, 0, 540, .inr 1, [])) (.leaf (23, 105, 6, .inr 3, [((0, []), zaI), ((1, []), .inr (.inr (.inr (.inl (0, 1600))))), ((2, []), .inr (.inr (.inr (.inl (0, 1600))))), ((3, []), zaI), ((4, []), .inr (.inl 7)), ((5, []), .inr (.inr (.inr (.inl (0, 1600)))))])))), zw_59, [], zp_59.map (fun p => p.1))
def zu_59 : List zCu := []
def zs_59 : List zCt := [zc_7, zc_5, zc_58]
theorem za_59 : zwin zw_59 zc_59.2.2.2.2.2.1 = true := by decide +kernel
theorem z0_59 : zst0 mi_P zw_59 [] [] (fun d y as t en => zcal zw_59 d y as t en zs_59) zc_59 zp_59 zu_59 916 = true := by decide +kernel
theorem zk_59 : zu_59.all (zck mi_P zc_59.2.1 zw_59 false [] [] (fun d y as t en => zcal zw_59 d y as t en zs_59) zc_59.2.2.2.1.length zc_59.2.2.2.1 zc_59.2.2.2.2.2.1 zp_59 zu_59 916) = true := by decide +kernel
theorem zt_59 {S : Nat × (Nat → Int32)} : zCtr mi_P S zTt zc_59 := by
  have hc : ∀ c ∈ zs_59, zCtr mi_P S zTt c := by
    intro c hc
    simp only [zs_59, List.mem_cons, List.not_mem_nil, or_false] at hc
    rcases hc with rfl | rfl | rfl
    · exact zt_7
    · exact zt_5
    · exact zt_58
  exact zCtr_of (Om := zTt) (ct := zc_59) (ps := zp_59) (fun _ _ _ _ => trivial) rfl hc za_59 z0_59 zk_59
/-- L$Reader.readTerm(I)V -/
def zw_60 : zW := .branch 16 (.branch 13 (.leaf (9, [1, 2, 5])) (.leaf (14, [1, 3]))) (.branch 22 (.leaf (17, [0])) (.leaf (23, [0, 1, 2, 3])))
def zp_60 : List (zPo × List (Nat ⊕ (Nat × zL))) := [(([], [], [(8, [((1, []), zaI), ((2, []), zaI), ((5, []), .inr (.inr (.inr (.inl (0, 30)))))]), (13, [((1, []), zaI), ((3, []), .inr (.inr (.inr (.inl (0, 540)))))]), (16, []), (22, [((0, []), zaI), ((1, []), .inr (.inr (.inr (.inl (0, 1600))))), ((2, []), .inr (.inr (.inr (.inl (0, 1600))))), ((3, []), zaI)])], none), [])]
def zc_60 : zCt := (44, 57, [.inr (.inl 8), .inl (0, [])], [], [], .branch 13 (.branch 8 (.leaf (8, 1, 1600, .inl ((-128), 127), [])) (.branch 9 (.leaf (9, 101, 8, .inr 3, [((0, []), .inr (.inl 9)), ((1, []), zaI), ((2, []), zaI), ((3, []), .inr (.inl 22)), ((5, []), .inr (.inr (.inr (.inl (0, 30)))))])) (.leaf (10, 102, 11, .inr 3, [((1, []), .inr (.inl 13))])))) (.branch 16 (.leaf (14, 104, 7, .inr 3, [((1, []), zaI), ((3, []), .inr (.inr (.inr (.inl (0, 540))))), ((5, []), .inr (.inl 16))])) (.branch 22 (.leaf (17, 0, 540, .inr 1, [])) (.leaf (23, 105, 6, .inr 3, [((0, []), zaI), ((1, []), .inr (.inr (.inr (.inl (0, 1600))))), ((2, []), .inr (.inr (.inr (.inl (0, 1600))))), ((3, []), zaI), ((4, []), .inr (.inl 7)), ((5, []), .inr (.inr (.inr (.inl (0, 1600)))))])))), zw_60, [], zp_60.map (fun p => p.1))
def zu_60 : List zCu := [(([(44, 5, [(2, .inl (0, [(0, 1)])), (0, .inr (.inl 8)), (1, .inl (0, []))], [])], .branch 13 (.branch 8 (.leaf (8, 1, 1600, .inl ((-128), 127), [])) (.branch 9 (.leaf (9, 101, 8, .inr 3, [((0, []), .inr (.inl 9)), ((3, []), .inr (.inl 22)), ((1, []), zaI), ((2, []), zaI), ((5, []), .inr (.inr (.inr (.inl (0, 30)))))])) (.leaf (10, 102, 11, .inr 3, [((1, []), .inr (.inl 13))])))) (.branch 16 (.leaf (14, 104, 7, .inr 3, [((5, []), .inr (.inl 16)), ((1, []), zaI), ((3, []), .inr (.inr (.inr (.inl (0, 540)))))])) (.branch 22 (.leaf (17, 0, 540, .inr 1, [])) (.leaf (23, 105, 6, .inr 3, [((4, []), .inr (.inl 7)), ((5, []), .inr (.inr (.inr (.inl (0, 1600))))), ((0, []), zaI), ((1, []), .inr (.inr (.inr (.inl (0, 1600))))), ((2, []), .inr (.inr (.inr (.inl (0, 1600))))), ((3, []), zaI)])))), [(0, 30)], [], []), [.inl (0, 2)], (30, [(0, (-1))]))]
def zs_60 : List zCt := [zc_59, zc_5]
theorem za_60 : zwin zw_60 zc_60.2.2.2.2.2.1 = true := by decide +kernel
theorem z0_60 : zst0 mi_P zw_60 [] [] (fun d y as t en => zcal zw_60 d y as t en zs_60) zc_60 zp_60 zu_60 548 = true := by decide +kernel
theorem zk_60 : zu_60.all (zck mi_P zc_60.2.1 zw_60 false [] [] (fun d y as t en => zcal zw_60 d y as t en zs_60) zc_60.2.2.2.1.length zc_60.2.2.2.1 zc_60.2.2.2.2.2.1 zp_60 zu_60 548) = true := by decide +kernel
theorem zt_60 {S : Nat × (Nat → Int32)} : zCtr mi_P S zTt zc_60 := by
  have hc : ∀ c ∈ zs_60, zCtr mi_P S zTt c := by
    intro c hc
    simp only [zs_60, List.mem_cons, List.not_mem_nil, or_false] at hc
    rcases hc with rfl | rfl
    · exact zt_59
    · exact zt_5
  exact zCtr_of (Om := zTt) (ct := zc_60) (ps := zp_60) (fun _ _ _ _ => trivial) rfl hc za_60 z0_60 zk_60
/-- L$Reader.readSum(I)V -/
def zw_61 : zW := .branch 16 (.branch 13 (.leaf (9, [1, 2, 5])) (.leaf (14, [1, 3]))) (.branch 22 (.leaf (17, [0])) (.leaf (23, [0, 1, 2, 3])))
def zp_61 : List (zPo × List (Nat ⊕ (Nat × zL))) := [(([], [], [(8, [((1, []), zaI), ((2, []), zaI), ((5, []), .inr (.inr (.inr (.inl (0, 30)))))]), (13, [((1, []), zaI), ((3, []), .inr (.inr (.inr (.inl (0, 540)))))]), (16, []), (22, [((0, []), zaI), ((1, []), .inr (.inr (.inr (.inl (0, 1600))))), ((2, []), .inr (.inr (.inr (.inl (0, 1600))))), ((3, []), zaI)])], none), [])]
def zc_61 : zCt := (43, 58, [.inr (.inl 8), .inl (0, [])], [], [], .branch 13 (.branch 8 (.leaf (8, 1, 1600, .inl ((-128), 127), [])) (.branch 9 (.leaf (9, 101, 8, .inr 3, [((0, []), .inr (.inl 9)), ((1, []), zaI), ((2, []), zaI), ((3, []), .inr (.inl 22)), ((5, []), .inr (.inr (.inr (.inl (0, 30)))))])) (.leaf (10, 102, 11, .inr 3, [((1, []), .inr (.inl 13))])))) (.branch 16 (.leaf (14, 104, 7, .inr 3, [((1, []), zaI), ((3, []), .inr (.inr (.inr (.inl (0, 540))))), ((5, []), .inr (.inl 16))])) (.branch 22 (.leaf (17, 0, 540, .inr 1, [])) (.leaf (23, 105, 6, .inr 3, [((0, []), zaI), ((1, []), .inr (.inr (.inr (.inl (0, 1600))))), ((2, []), .inr (.inr (.inr (.inl (0, 1600))))), ((3, []), zaI), ((4, []), .inr (.inl 7)), ((5, []), .inr (.inr (.inr (.inl (0, 1600)))))])))), zw_61, [], zp_61.map (fun p => p.1))
def zu_61 : List zCu := [(([(43, 5, [(2, .inl (0, [(0, 1)])), (0, .inr (.inl 8)), (1, .inl (0, []))], [])], .branch 13 (.branch 8 (.leaf (8, 1, 1600, .inl ((-128), 127), [])) (.branch 9 (.leaf (9, 101, 8, .inr 3, [((0, []), .inr (.inl 9)), ((3, []), .inr (.inl 22)), ((1, []), zaI), ((2, []), zaI), ((5, []), .inr (.inr (.inr (.inl (0, 30)))))])) (.leaf (10, 102, 11, .inr 3, [((1, []), .inr (.inl 13))])))) (.branch 16 (.leaf (14, 104, 7, .inr 3, [((5, []), .inr (.inl 16)), ((1, []), zaI), ((3, []), .inr (.inr (.inr (.inl (0, 540)))))])) (.branch 22 (.leaf (17, 0, 540, .inr 1, [])) (.leaf (23, 105, 6, .inr 3, [((4, []), .inr (.inl 7)), ((5, []), .inr (.inr (.inr (.inl (0, 1600))))), ((0, []), zaI), ((1, []), .inr (.inr (.inr (.inl (0, 1600))))), ((2, []), .inr (.inr (.inr (.inl (0, 1600))))), ((3, []), zaI)])))), [(0, 30)], [], []), [.inl (0, 2)], (30, [(0, (-1))]))]
def zs_61 : List zCt := [zc_60, zc_5]
theorem za_61 : zwin zw_61 zc_61.2.2.2.2.2.1 = true := by decide +kernel
theorem z0_61 : zst0 mi_P zw_61 [] [] (fun d y as t en => zcal zw_61 d y as t en zs_61) zc_61 zp_61 zu_61 408 = true := by decide +kernel
theorem zk_61 : zu_61.all (zck mi_P zc_61.2.1 zw_61 false [] [] (fun d y as t en => zcal zw_61 d y as t en zs_61) zc_61.2.2.2.1.length zc_61.2.2.2.1 zc_61.2.2.2.2.2.1 zp_61 zu_61 408) = true := by decide +kernel
theorem zt_61 {S : Nat × (Nat → Int32)} : zCtr mi_P S zTt zc_61 := by
  have hc : ∀ c ∈ zs_61, zCtr mi_P S zTt c := by
    intro c hc
    simp only [zs_61, List.mem_cons, List.not_mem_nil, or_false] at hc
    rcases hc with rfl | rfl
    · exact zt_60
    · exact zt_5
  exact zCtr_of (Om := zTt) (ct := zc_61) (ps := zp_61) (fun _ _ _ _ => trivial) rfl hc za_61 z0_61 zk_61
/-- L$Reader.readRelation(I)V -/
def zw_62 : zW := .branch 16 (.branch 13 (.leaf (9, [1, 2, 5])) (.leaf (14, [1, 3]))) (.branch 22 (.leaf (17, [0])) (.leaf (23, [0, 1, 2, 3])))
def zp_62 : List (zPo × List (Nat ⊕ (Nat × zL))) := [(([], [], [(8, [((1, []), zaI), ((2, []), zaI), ((5, []), .inr (.inr (.inr (.inl (0, 30)))))]), (13, [((1, []), zaI), ((3, []), .inr (.inr (.inr (.inl (0, 540)))))]), (16, []), (22, [((0, []), zaI), ((1, []), .inr (.inr (.inr (.inl (0, 1600))))), ((2, []), .inr (.inr (.inr (.inl (0, 1600))))), ((3, []), zaI)])], none), [])]
def zc_62 : zCt := (42, 59, [.inr (.inl 8), .inl (0, [])], [], [], .branch 13 (.branch 8 (.leaf (8, 1, 1600, .inl ((-128), 127), [])) (.branch 9 (.leaf (9, 101, 8, .inr 3, [((0, []), .inr (.inl 9)), ((1, []), zaI), ((2, []), zaI), ((3, []), .inr (.inl 22)), ((5, []), .inr (.inr (.inr (.inl (0, 30)))))])) (.leaf (10, 102, 11, .inr 3, [((1, []), .inr (.inl 13))])))) (.branch 16 (.leaf (14, 104, 7, .inr 3, [((1, []), zaI), ((3, []), .inr (.inr (.inr (.inl (0, 540))))), ((5, []), .inr (.inl 16))])) (.branch 22 (.leaf (17, 0, 540, .inr 1, [])) (.leaf (23, 105, 6, .inr 3, [((0, []), zaI), ((1, []), .inr (.inr (.inr (.inl (0, 1600))))), ((2, []), .inr (.inr (.inr (.inl (0, 1600))))), ((3, []), zaI), ((4, []), .inr (.inl 7)), ((5, []), .inr (.inr (.inr (.inl (0, 1600)))))])))), zw_62, [], zp_62.map (fun p => p.1))
def zu_62 : List zCu := []
def zs_62 : List zCt := [zc_61, zc_5]
theorem za_62 : zwin zw_62 zc_62.2.2.2.2.2.1 = true := by decide +kernel
theorem z0_62 : zst0 mi_P zw_62 [] [] (fun d y as t en => zcal zw_62 d y as t en zs_62) zc_62 zp_62 zu_62 470 = true := by decide +kernel
theorem zk_62 : zu_62.all (zck mi_P zc_62.2.1 zw_62 false [] [] (fun d y as t en => zcal zw_62 d y as t en zs_62) zc_62.2.2.2.1.length zc_62.2.2.2.1 zc_62.2.2.2.2.2.1 zp_62 zu_62 470) = true := by decide +kernel
theorem zt_62 {S : Nat × (Nat → Int32)} : zCtr mi_P S zTt zc_62 := by
  have hc : ∀ c ∈ zs_62, zCtr mi_P S zTt c := by
    intro c hc
    simp only [zs_62, List.mem_cons, List.not_mem_nil, or_false] at hc
    rcases hc with rfl | rfl
    · exact zt_61
    · exact zt_5
  exact zCtr_of (Om := zTt) (ct := zc_62) (ps := zp_62) (fun _ _ _ _ => trivial) rfl hc za_62 z0_62 zk_62
/-- L$Reader.readOne(I)V -/
def zw_63 : zW := .branch 16 (.branch 13 (.leaf (9, [1, 2, 5])) (.leaf (14, [1, 3]))) (.branch 22 (.leaf (17, [0])) (.leaf (23, [0, 1, 2, 3])))
def zp_63 : List (zPo × List (Nat ⊕ (Nat × zL))) := [(([], [], [(8, [((1, []), zaI), ((2, []), zaI), ((5, []), .inr (.inr (.inr (.inl (0, 30)))))]), (13, [((1, []), zaI), ((3, []), .inr (.inr (.inr (.inl (0, 540)))))]), (16, []), (22, [((0, []), zaI), ((1, []), .inr (.inr (.inr (.inl (0, 1600))))), ((2, []), .inr (.inr (.inr (.inl (0, 1600))))), ((3, []), zaI)])], none), [])]
def zc_63 : zCt := (41, 60, [.inr (.inl 8), .inl (0, [])], [], [], .branch 13 (.branch 8 (.leaf (8, 1, 1600, .inl ((-128), 127), [])) (.branch 9 (.leaf (9, 101, 8, .inr 3, [((0, []), .inr (.inl 9)), ((1, []), zaI), ((2, []), zaI), ((3, []), .inr (.inl 22)), ((5, []), .inr (.inr (.inr (.inl (0, 30)))))])) (.leaf (10, 102, 11, .inr 3, [((1, []), .inr (.inl 13))])))) (.branch 16 (.leaf (14, 104, 7, .inr 3, [((1, []), zaI), ((3, []), .inr (.inr (.inr (.inl (0, 540))))), ((5, []), .inr (.inl 16))])) (.branch 22 (.leaf (17, 0, 540, .inr 1, [])) (.leaf (23, 105, 6, .inr 3, [((0, []), zaI), ((1, []), .inr (.inr (.inr (.inl (0, 1600))))), ((2, []), .inr (.inr (.inr (.inl (0, 1600))))), ((3, []), zaI), ((4, []), .inr (.inl 7)), ((5, []), .inr (.inr (.inr (.inl (0, 1600)))))])))), zw_63, [], zp_63.map (fun p => p.1))
def zu_63 : List zCu := []
def zs_63 : List zCt := [zc_5, zc_56, zc_62]
theorem za_63 : zwin zw_63 zc_63.2.2.2.2.2.1 = true := by decide +kernel
theorem z0_63 : zst0 mi_P zw_63 [] [] (fun d y as t en => zcal zw_63 d y as t en zs_63) zc_63 zp_63 zu_63 296 = true := by decide +kernel
theorem zk_63 : zu_63.all (zck mi_P zc_63.2.1 zw_63 false [] [] (fun d y as t en => zcal zw_63 d y as t en zs_63) zc_63.2.2.2.1.length zc_63.2.2.2.1 zc_63.2.2.2.2.2.1 zp_63 zu_63 296) = true := by decide +kernel
theorem zt_63 {S : Nat × (Nat → Int32)} : zCtr mi_P S zTt zc_63 := by
  have hc : ∀ c ∈ zs_63, zCtr mi_P S zTt c := by
    intro c hc
    simp only [zs_63, List.mem_cons, List.not_mem_nil, or_false] at hc
    rcases hc with rfl | rfl | rfl
    · exact zt_5
    · exact zt_56
    · exact zt_62
  exact zCtr_of (Om := zTt) (ct := zc_63) (ps := zp_63) (fun _ _ _ _ => trivial) rfl hc za_63 z0_63 zk_63
/-- L$Reader.readAnds(I)V -/
def zw_64 : zW := .branch 16 (.branch 13 (.leaf (9, [1, 2, 5])) (.leaf (14, [1, 3]))) (.branch 22 (.leaf (17, [0])) (.leaf (23, [0, 1, 2, 3])))
def zp_64 : List (zPo × List (Nat ⊕ (Nat × zL))) := [(([], [], [(8, [((1, []), zaI), ((2, []), zaI), ((5, []), .inr (.inr (.inr (.inl (0, 30)))))]), (13, [((1, []), zaI), ((3, []), .inr (.inr (.inr (.inl (0, 540)))))]), (16, []), (22, [((0, []), zaI), ((1, []), .inr (.inr (.inr (.inl (0, 1600))))), ((2, []), .inr (.inr (.inr (.inl (0, 1600))))), ((3, []), zaI)])], none), [])]
def zc_64 : zCt := (40, 61, [.inr (.inl 8), .inl (0, [])], [], [], .branch 13 (.branch 8 (.leaf (8, 1, 1600, .inl ((-128), 127), [])) (.branch 9 (.leaf (9, 101, 8, .inr 3, [((0, []), .inr (.inl 9)), ((1, []), zaI), ((2, []), zaI), ((3, []), .inr (.inl 22)), ((5, []), .inr (.inr (.inr (.inl (0, 30)))))])) (.leaf (10, 102, 11, .inr 3, [((1, []), .inr (.inl 13))])))) (.branch 16 (.leaf (14, 104, 7, .inr 3, [((1, []), zaI), ((3, []), .inr (.inr (.inr (.inl (0, 540))))), ((5, []), .inr (.inl 16))])) (.branch 22 (.leaf (17, 0, 540, .inr 1, [])) (.leaf (23, 105, 6, .inr 3, [((0, []), zaI), ((1, []), .inr (.inr (.inr (.inl (0, 1600))))), ((2, []), .inr (.inr (.inr (.inl (0, 1600))))), ((3, []), zaI), ((4, []), .inr (.inl 7)), ((5, []), .inr (.inr (.inr (.inl (0, 1600)))))])))), zw_64, [], zp_64.map (fun p => p.1))
def zu_64 : List zCu := [(([(40, 5, [(2, .inl (0, [(0, 1)])), (0, .inr (.inl 8)), (1, .inl (0, []))], [])], .branch 13 (.branch 8 (.leaf (8, 1, 1600, .inl ((-128), 127), [])) (.branch 9 (.leaf (9, 101, 8, .inr 3, [((0, []), .inr (.inl 9)), ((3, []), .inr (.inl 22)), ((1, []), zaI), ((2, []), zaI), ((5, []), .inr (.inr (.inr (.inl (0, 30)))))])) (.leaf (10, 102, 11, .inr 3, [((1, []), .inr (.inl 13))])))) (.branch 16 (.leaf (14, 104, 7, .inr 3, [((5, []), .inr (.inl 16)), ((1, []), zaI), ((3, []), .inr (.inr (.inr (.inl (0, 540)))))])) (.branch 22 (.leaf (17, 0, 540, .inr 1, [])) (.leaf (23, 105, 6, .inr 3, [((4, []), .inr (.inl 7)), ((5, []), .inr (.inr (.inr (.inl (0, 1600))))), ((0, []), zaI), ((1, []), .inr (.inr (.inr (.inl (0, 1600))))), ((2, []), .inr (.inr (.inr (.inl (0, 1600))))), ((3, []), zaI)])))), [(0, 30)], [], []), [.inl (0, 2)], (30, [(0, (-1))]))]
def zs_64 : List zCt := [zc_63, zc_5]
theorem za_64 : zwin zw_64 zc_64.2.2.2.2.2.1 = true := by decide +kernel
theorem z0_64 : zst0 mi_P zw_64 [] [] (fun d y as t en => zcal zw_64 d y as t en zs_64) zc_64 zp_64 zu_64 292 = true := by decide +kernel
theorem zk_64 : zu_64.all (zck mi_P zc_64.2.1 zw_64 false [] [] (fun d y as t en => zcal zw_64 d y as t en zs_64) zc_64.2.2.2.1.length zc_64.2.2.2.1 zc_64.2.2.2.2.2.1 zp_64 zu_64 292) = true := by decide +kernel
theorem zt_64 {S : Nat × (Nat → Int32)} : zCtr mi_P S zTt zc_64 := by
  have hc : ∀ c ∈ zs_64, zCtr mi_P S zTt c := by
    intro c hc
    simp only [zs_64, List.mem_cons, List.not_mem_nil, or_false] at hc
    rcases hc with rfl | rfl
    · exact zt_63
    · exact zt_5
  exact zCtr_of (Om := zTt) (ct := zc_64) (ps := zp_64) (fun _ _ _ _ => trivial) rfl hc za_64 z0_64 zk_64
/-- L$Reader.readOrs(I)V -/
def zw_65 : zW := .branch 16 (.branch 13 (.leaf (9, [1, 2, 5])) (.leaf (14, [1, 3]))) (.branch 22 (.leaf (17, [0])) (.leaf (23, [0, 1, 2, 3])))
def zp_65 : List (zPo × List (Nat ⊕ (Nat × zL))) := [(([], [], [(8, [((1, []), zaI), ((2, []), zaI), ((5, []), .inr (.inr (.inr (.inl (0, 30)))))]), (13, [((1, []), zaI), ((3, []), .inr (.inr (.inr (.inl (0, 540)))))]), (16, []), (22, [((0, []), zaI), ((1, []), .inr (.inr (.inr (.inl (0, 1600))))), ((2, []), .inr (.inr (.inr (.inl (0, 1600))))), ((3, []), zaI)])], none), [])]
def zc_65 : zCt := (39, 62, [.inr (.inl 8), .inl (0, [])], [], [], .branch 13 (.branch 8 (.leaf (8, 1, 1600, .inl ((-128), 127), [])) (.branch 9 (.leaf (9, 101, 8, .inr 3, [((0, []), .inr (.inl 9)), ((1, []), zaI), ((2, []), zaI), ((3, []), .inr (.inl 22)), ((5, []), .inr (.inr (.inr (.inl (0, 30)))))])) (.leaf (10, 102, 11, .inr 3, [((1, []), .inr (.inl 13))])))) (.branch 16 (.leaf (14, 104, 7, .inr 3, [((1, []), zaI), ((3, []), .inr (.inr (.inr (.inl (0, 540))))), ((5, []), .inr (.inl 16))])) (.branch 22 (.leaf (17, 0, 540, .inr 1, [])) (.leaf (23, 105, 6, .inr 3, [((0, []), zaI), ((1, []), .inr (.inr (.inr (.inl (0, 1600))))), ((2, []), .inr (.inr (.inr (.inl (0, 1600))))), ((3, []), zaI), ((4, []), .inr (.inl 7)), ((5, []), .inr (.inr (.inr (.inl (0, 1600)))))])))), zw_65, [], zp_65.map (fun p => p.1))
def zu_65 : List zCu := [(([(39, 5, [(2, .inl (0, [(0, 1)])), (0, .inr (.inl 8)), (1, .inl (0, []))], [])], .branch 13 (.branch 8 (.leaf (8, 1, 1600, .inl ((-128), 127), [])) (.branch 9 (.leaf (9, 101, 8, .inr 3, [((0, []), .inr (.inl 9)), ((3, []), .inr (.inl 22)), ((1, []), zaI), ((2, []), zaI), ((5, []), .inr (.inr (.inr (.inl (0, 30)))))])) (.leaf (10, 102, 11, .inr 3, [((1, []), .inr (.inl 13))])))) (.branch 16 (.leaf (14, 104, 7, .inr 3, [((5, []), .inr (.inl 16)), ((1, []), zaI), ((3, []), .inr (.inr (.inr (.inl (0, 540)))))])) (.branch 22 (.leaf (17, 0, 540, .inr 1, [])) (.leaf (23, 105, 6, .inr 3, [((4, []), .inr (.inl 7)), ((5, []), .inr (.inr (.inr (.inl (0, 1600))))), ((0, []), zaI), ((1, []), .inr (.inr (.inr (.inl (0, 1600))))), ((2, []), .inr (.inr (.inr (.inl (0, 1600))))), ((3, []), zaI)])))), [(0, 30)], [], []), [.inl (0, 2)], (30, [(0, (-1))]))]
def zs_65 : List zCt := [zc_64, zc_5]
theorem za_65 : zwin zw_65 zc_65.2.2.2.2.2.1 = true := by decide +kernel
theorem z0_65 : zst0 mi_P zw_65 [] [] (fun d y as t en => zcal zw_65 d y as t en zs_65) zc_65 zp_65 zu_65 292 = true := by decide +kernel
theorem zk_65 : zu_65.all (zck mi_P zc_65.2.1 zw_65 false [] [] (fun d y as t en => zcal zw_65 d y as t en zs_65) zc_65.2.2.2.1.length zc_65.2.2.2.1 zc_65.2.2.2.2.2.1 zp_65 zu_65 292) = true := by decide +kernel
theorem zt_65 {S : Nat × (Nat → Int32)} : zCtr mi_P S zTt zc_65 := by
  have hc : ∀ c ∈ zs_65, zCtr mi_P S zTt c := by
    intro c hc
    simp only [zs_65, List.mem_cons, List.not_mem_nil, or_false] at hc
    rcases hc with rfl | rfl
    · exact zt_64
    · exact zt_5
  exact zCtr_of (Om := zTt) (ct := zc_65) (ps := zp_65) (fun _ _ _ _ => trivial) rfl hc za_65 z0_65 zk_65
/-- L$Reader.readName(I)V -/
def zw_66 : zW := .branch 24 (.branch 22 (.leaf (9, [1, 2])) (.leaf (23, [0, 1, 2, 3]))) (.branch 25 (.leaf (25, [0])) (.leaf (26, [0])))
def zp_66 : List (zPo × List (Nat ⊕ (Nat × zL))) := [(([], [], [(8, [((1, []), zaI), ((2, []), zaI)]), (22, [((0, []), zaI), ((1, []), .inr (.inr (.inr (.inl (0, 1600))))), ((2, []), .inr (.inr (.inr (.inl (0, 1600))))), ((3, []), zaI)]), (24, []), (25, [])], none), [])]
def zc_66 : zCt := (36, 7, [.inr (.inl 8), .inr (.inr (.inr (.inl (0, 3))))], [], [], .branch 22 (.branch 8 (.leaf (8, 1, 1600, .inl ((-128), 127), [])) (.leaf (9, 101, 8, .inr 3, [((1, []), zaI), ((2, []), zaI), ((3, []), .inr (.inl 22)), ((6, []), .inr (.inl 24)), ((7, []), .inr (.inl 25))]))) (.branch 24 (.leaf (23, 105, 6, .inr 3, [((0, []), zaI), ((1, []), .inr (.inr (.inr (.inl (0, 1600))))), ((2, []), .inr (.inr (.inr (.inl (0, 1600))))), ((3, []), zaI), ((4, []), .inr (.inl 7)), ((5, []), .inr (.inr (.inr (.inl (0, 1600)))))])) (.branch 25 (.leaf (25, 0, 4, .inl (0, 1600), [])) (.leaf (26, 0, 4, .inl (0, 1600), [])))), zw_66, [], zp_66.map (fun p => p.1))
def zu_66 : List zCu := [(([(36, 10, [(2, .inl (0, [(1, 1)])), (0, .inr (.inl 8)), (1, .inl (0, [(0, 1)]))], [])], .branch 22 (.branch 8 (.leaf (8, 1, 1600, .inl ((-128), 127), [])) (.leaf (9, 101, 8, .inr 3, [((1, []), zaI), ((2, []), zaI), ((3, []), .inr (.inl 22)), ((6, []), .inr (.inl 24)), ((7, []), .inr (.inl 25))]))) (.branch 24 (.leaf (23, 105, 6, .inr 3, [((1, []), .inr (.inr (.inr (.inl (0, 1600))))), ((2, []), .inr (.inr (.inr (.inl (0, 1600))))), ((3, []), zaI), ((4, []), .inr (.inl 7)), ((5, []), .inr (.inr (.inr (.inl (0, 1600))))), ((0, []), .inr (.inr (.inr (.inl (3, 3)))))])) (.branch 25 (.leaf (25, 0, 4, .inl (0, 1600), [])) (.leaf (26, 0, 4, .inl (0, 1600), [])))), [(0, 3), (0, 3)], [], []), [.inl (0, 1), .inl (0, 2)], (3, [(1, (-1))]))]
def zs_66 : List zCt := [zc_7, zc_5, zc_6]
theorem za_66 : zwin zw_66 zc_66.2.2.2.2.2.1 = true := by decide +kernel
theorem z0_66 : zst0 mi_P zw_66 [] [] (fun d y as t en => zcal zw_66 d y as t en zs_66) zc_66 zp_66 zu_66 274 = true := by decide +kernel
theorem zk_66 : zu_66.all (zck mi_P zc_66.2.1 zw_66 false [] [] (fun d y as t en => zcal zw_66 d y as t en zs_66) zc_66.2.2.2.1.length zc_66.2.2.2.1 zc_66.2.2.2.2.2.1 zp_66 zu_66 274) = true := by decide +kernel
theorem zt_66 {S : Nat × (Nat → Int32)} : zCtr mi_P S zTt zc_66 := by
  have hc : ∀ c ∈ zs_66, zCtr mi_P S zTt c := by
    intro c hc
    simp only [zs_66, List.mem_cons, List.not_mem_nil, or_false] at hc
    rcases hc with rfl | rfl | rfl
    · exact zt_7
    · exact zt_5
    · exact zt_6
  exact zCtr_of (Om := zTt) (ct := zc_66) (ps := zp_66) (fun _ _ _ _ => trivial) rfl hc za_66 z0_66 zk_66
/-- L$Reader.readSort(I)V -/
def zw_67 : zW := .branch 16 (.branch 13 (.branch 9 (.leaf (9, [1, 2, 5])) (.leaf (10, [5]))) (.branch 15 (.leaf (14, [1, 2, 3])) (.leaf (16, [0])))) (.branch 22 (.branch 18 (.leaf (17, [0])) (.leaf (19, [0]))) (.branch 24 (.leaf (23, [0, 1, 2, 3])) (.branch 25 (.leaf (25, [0])) (.leaf (26, [0])))))
def zp_67 : List (zPo × List (Nat ⊕ (Nat × zL))) := [(([], [], [(8, [((1, []), zaI), ((2, []), zaI), ((5, []), .inr (.inr (.inr (.inl (0, 30)))))]), (9, [((5, []), .inr (.inr (.inr (.inl (0, 4)))))]), (13, [((1, []), zaI), ((2, []), .inr (.inr (.inr (.inl (0, 4))))), ((3, []), .inr (.inr (.inr (.inl (0, 540)))))]), (15, []), (16, []), (18, []), (22, [((0, []), zaI), ((1, []), .inr (.inr (.inr (.inl (0, 1600))))), ((2, []), .inr (.inr (.inr (.inl (0, 1600))))), ((3, []), zaI)]), (24, []), (25, [])], none), [])]
def zc_67 : zCt := (35, 63, [.inr (.inl 8), .inr (.inr (.inr (.inl (0, 3))))], [], [], .branch 16 (.branch 9 (.branch 8 (.leaf (8, 1, 1600, .inl ((-128), 127), [])) (.leaf (9, 101, 8, .inr 3, [((0, []), .inr (.inl 9)), ((1, []), zaI), ((2, []), zaI), ((3, []), .inr (.inl 22)), ((5, []), .inr (.inr (.inr (.inl (0, 30))))), ((6, []), .inr (.inl 24)), ((7, []), .inr (.inl 25))]))) (.branch 13 (.leaf (10, 102, 11, .inr 3, [((1, []), .inr (.inl 13)), ((5, []), .inr (.inr (.inr (.inl (0, 4))))), ((6, []), .inr (.inl 18))])) (.branch 15 (.leaf (14, 104, 7, .inr 3, [((1, []), zaI), ((2, []), .inr (.inr (.inr (.inl (0, 4))))), ((3, []), .inr (.inr (.inr (.inl (0, 540))))), ((4, []), .inr (.inl 15)), ((5, []), .inr (.inl 16))])) (.leaf (16, 0, 5, .inl (0, 540), []))))) (.branch 22 (.branch 18 (.leaf (17, 0, 540, .inr 1, [])) (.leaf (19, 0, 4, .inl ((-2147483648), 2147483647), []))) (.branch 24 (.leaf (23, 105, 6, .inr 3, [((0, []), zaI), ((1, []), .inr (.inr (.inr (.inl (0, 1600))))), ((2, []), .inr (.inr (.inr (.inl (0, 1600))))), ((3, []), zaI), ((4, []), .inr (.inl 7)), ((5, []), .inr (.inr (.inr (.inl (0, 1600)))))])) (.branch 25 (.leaf (25, 0, 4, .inl (0, 1600), [])) (.leaf (26, 0, 4, .inl (0, 1600), []))))), zw_67, [], zp_67.map (fun p => p.1))
def zu_67 : List zCu := []
def zs_67 : List zCt := [zc_66, zc_8, zc_9, zc_65]
theorem za_67 : zwin zw_67 zc_67.2.2.2.2.2.1 = true := by decide +kernel
theorem z0_67 : zst0 mi_P zw_67 [] [] (fun d y as t en => zcal zw_67 d y as t en zs_67) zc_67 zp_67 zu_67 318 = true := by decide +kernel
theorem zk_67 : zu_67.all (zck mi_P zc_67.2.1 zw_67 false [] [] (fun d y as t en => zcal zw_67 d y as t en zs_67) zc_67.2.2.2.1.length zc_67.2.2.2.1 zc_67.2.2.2.2.2.1 zp_67 zu_67 318) = true := by decide +kernel
theorem zt_67 {S : Nat × (Nat → Int32)} : zCtr mi_P S zTt zc_67 := by
  have hc : ∀ c ∈ zs_67, zCtr mi_P S zTt c := by
    intro c hc
    simp only [zs_67, List.mem_cons, List.not_mem_nil, or_false] at hc
    rcases hc with rfl | rfl | rfl | rfl
    · exact zt_66
    · exact zt_8
    · exact zt_9
    · exact zt_65
  exact zCtr_of (Om := zTt) (ct := zc_67) (ps := zp_67) (fun _ _ _ _ => trivial) rfl hc za_67 z0_67 zk_67
