/-- L$Reader.readUnit(I)V -/
def zw_5024 : zW := .branch 16 (.branch 13 (.leaf (9, [1, 2, 5])) (.leaf (14, [1, 3]))) (.branch 22 (.leaf (17, [0])) (.leaf (23, [0, 1, 2, 3])))
def zp_5024 : List (zPo × List (Nat ⊕ (Nat × zL))) := [(([], [], [(8, [((1, []), zaI), ((2, []), zaI), ((5, []), .inr (.inr (.inr (.inl (0, 30)))))]), (13, [((1, []), zaI), ((3, []), .inr (.inr (.inr (.inl (0, 540)))))]), (16, []), (22, [((0, []), zaI), ((1, []), .inr (.inr (.inr (.inl (0, 1600))))), ((2, []), .inr (.inr (.inr (.inl (0, 1600))))), ((3, []), zaI)])], none), [])]
def zc_5024 : zCt := (45, 21, [.inr (.inl 8), .inl (5, [])], [], [], .branch 13 (.branch 8 (.leaf (8, 1, 1600, .inl ((-128), 127), [])) (.branch 9 (.leaf (9, 101, 8, .inr 3, [((0, []), .inr (.inl 9)), ((1, []), zaI), ((2, []), zaI), ((3, []), .inr (.inl 22)), ((5, []), .inr (.inr (.inr (.inl (0, 30)))))])) (.leaf (10, 102, 11, .inr 3, [((1, []), .inr (.inl 13))])))) (.branch 16 (.leaf (14, 104, 7, .inr 3, [((1, []), zaI), ((3, []), .inr (.inr (.inr (.inl (0, 540))))), ((5, []), .inr (.inl 16))])) (.branch 22 (.leaf (17, 0, 540, .inr 1, [])) (.leaf (23, 105, 6, .inr 3, [((0, []), zaI), ((1, []), .inr (.inr (.inr (.inl (0, 1600))))), ((2, []), .inr (.inr (.inr (.inl (0, 1600))))), ((3, []), zaI), ((4, []), .inr (.inl 7)), ((5, []), .inr (.inr (.inr (.inl (0, 1600)))))])))), zw_5024, [], zp_5024.map (fun p => p.1))
def zu_5024 : List zCu := []
def zs_5024 : List zCt := [zc_5007, zc_5005, zc_5023]
theorem za_5024 : zwin zw_5024 zc_5024.2.2.2.2.2.1 = true := by decide +kernel
theorem z0_5024 : zst0 mi_P zw_5024 [] [] (fun d y as t en => zcal zw_5024 d y as t en zs_5024) zc_5024 zp_5024 zu_5024 916 = true := by decide +kernel
theorem zk_5024 : zu_5024.all (zck mi_P zc_5024.2.1 zw_5024 false [] [] (fun d y as t en => zcal zw_5024 d y as t en zs_5024) zc_5024.2.2.2.1.length zc_5024.2.2.2.1 zc_5024.2.2.2.2.2.1 zp_5024 zu_5024 916) = true := by decide +kernel
theorem zt_5024 {S : Nat × (Nat → Int32)} : zCtr mi_P S zTt zc_5024 := by
  have hc : ∀ c ∈ zs_5024, zCtr mi_P S zTt c := by
    intro c hc
    simp only [zs_5024, List.mem_cons, List.not_mem_nil, or_false] at hc
    rcases hc with rfl | rfl | rfl
    · exact zt_5007
    · exact zt_5005
    · exact zt_5023
  exact zCtr_of (Om := zTt) (ct := zc_5024) (ps := zp_5024) (fun _ _ _ _ => trivial) rfl hc za_5024 z0_5024 zk_5024
/-- L$Reader.readTerm(I)V -/
def zw_5025 : zW := .branch 16 (.branch 13 (.leaf (9, [1, 2, 5])) (.leaf (14, [1, 3]))) (.branch 22 (.leaf (17, [0])) (.leaf (23, [0, 1, 2, 3])))
def zp_5025 : List (zPo × List (Nat ⊕ (Nat × zL))) := [(([], [], [(8, [((1, []), zaI), ((2, []), zaI), ((5, []), .inr (.inr (.inr (.inl (0, 30)))))]), (13, [((1, []), zaI), ((3, []), .inr (.inr (.inr (.inl (0, 540)))))]), (16, []), (22, [((0, []), zaI), ((1, []), .inr (.inr (.inr (.inl (0, 1600))))), ((2, []), .inr (.inr (.inr (.inl (0, 1600))))), ((3, []), zaI)])], none), [])]
def zc_5025 : zCt := (44, 22, [.inr (.inl 8), .inl (5, [])], [], [], .branch 13 (.branch 8 (.leaf (8, 1, 1600, .inl ((-128), 127), [])) (.branch 9 (.leaf (9, 101, 8, .inr 3, [((0, []), .inr (.inl 9)), ((1, []), zaI), ((2, []), zaI), ((3, []), .inr (.inl 22)), ((5, []), .inr (.inr (.inr (.inl (0, 30)))))])) (.leaf (10, 102, 11, .inr 3, [((1, []), .inr (.inl 13))])))) (.branch 16 (.leaf (14, 104, 7, .inr 3, [((1, []), zaI), ((3, []), .inr (.inr (.inr (.inl (0, 540))))), ((5, []), .inr (.inl 16))])) (.branch 22 (.leaf (17, 0, 540, .inr 1, [])) (.leaf (23, 105, 6, .inr 3, [((0, []), zaI), ((1, []), .inr (.inr (.inr (.inl (0, 1600))))), ((2, []), .inr (.inr (.inr (.inl (0, 1600))))), ((3, []), zaI), ((4, []), .inr (.inl 7)), ((5, []), .inr (.inr (.inr (.inl (0, 1600)))))])))), zw_5025, [], zp_5025.map (fun p => p.1))
def zu_5025 : List zCu := [(([(44, 5, [(2, .inl (0, [(0, 1)])), (0, .inr (.inl 8)), (1, .inl (5, []))], [])], .branch 13 (.branch 8 (.leaf (8, 1, 1600, .inl ((-128), 127), [])) (.branch 9 (.leaf (9, 101, 8, .inr 3, [((0, []), .inr (.inl 9)), ((3, []), .inr (.inl 22)), ((1, []), zaI), ((2, []), zaI), ((5, []), .inr (.inr (.inr (.inl (0, 30)))))])) (.leaf (10, 102, 11, .inr 3, [((1, []), .inr (.inl 13))])))) (.branch 16 (.leaf (14, 104, 7, .inr 3, [((5, []), .inr (.inl 16)), ((1, []), zaI), ((3, []), .inr (.inr (.inr (.inl (0, 540)))))])) (.branch 22 (.leaf (17, 0, 540, .inr 1, [])) (.leaf (23, 105, 6, .inr 3, [((4, []), .inr (.inl 7)), ((5, []), .inr (.inr (.inr (.inl (0, 1600))))), ((0, []), zaI), ((1, []), .inr (.inr (.inr (.inl (0, 1600))))), ((2, []), .inr (.inr (.inr (.inl (0, 1600))))), ((3, []), zaI)])))), [(0, 30)], [], []), [.inl (0, 2)], (30, [(0, (-1))]))]
def zs_5025 : List zCt := [zc_5024, zc_5005]
theorem za_5025 : zwin zw_5025 zc_5025.2.2.2.2.2.1 = true := by decide +kernel
theorem z0_5025 : zst0 mi_P zw_5025 [] [] (fun d y as t en => zcal zw_5025 d y as t en zs_5025) zc_5025 zp_5025 zu_5025 548 = true := by decide +kernel
theorem zk_5025 : zu_5025.all (zck mi_P zc_5025.2.1 zw_5025 false [] [] (fun d y as t en => zcal zw_5025 d y as t en zs_5025) zc_5025.2.2.2.1.length zc_5025.2.2.2.1 zc_5025.2.2.2.2.2.1 zp_5025 zu_5025 548) = true := by decide +kernel
theorem zt_5025 {S : Nat × (Nat → Int32)} : zCtr mi_P S zTt zc_5025 := by
  have hc : ∀ c ∈ zs_5025, zCtr mi_P S zTt c := by
    intro c hc
    simp only [zs_5025, List.mem_cons, List.not_mem_nil, or_false] at hc
    rcases hc with rfl | rfl
    · exact zt_5024
    · exact zt_5005
  exact zCtr_of (Om := zTt) (ct := zc_5025) (ps := zp_5025) (fun _ _ _ _ => trivial) rfl hc za_5025 z0_5025 zk_5025
/-- L$Reader.readSum(I)V -/
def zw_5026 : zW := .branch 16 (.branch 13 (.leaf (9, [1, 2, 5])) (.leaf (14, [1, 3]))) (.branch 22 (.leaf (17, [0])) (.leaf (23, [0, 1, 2, 3])))
def zp_5026 : List (zPo × List (Nat ⊕ (Nat × zL))) := [(([], [], [(8, [((1, []), zaI), ((2, []), zaI), ((5, []), .inr (.inr (.inr (.inl (0, 30)))))]), (13, [((1, []), zaI), ((3, []), .inr (.inr (.inr (.inl (0, 540)))))]), (16, []), (22, [((0, []), zaI), ((1, []), .inr (.inr (.inr (.inl (0, 1600))))), ((2, []), .inr (.inr (.inr (.inl (0, 1600))))), ((3, []), zaI)])], none), [])]
def zc_5026 : zCt := (43, 23, [.inr (.inl 8), .inl (5, [])], [], [], .branch 13 (.branch 8 (.leaf (8, 1, 1600, .inl ((-128), 127), [])) (.branch 9 (.leaf (9, 101, 8, .inr 3, [((0, []), .inr (.inl 9)), ((1, []), zaI), ((2, []), zaI), ((3, []), .inr (.inl 22)), ((5, []), .inr (.inr (.inr (.inl (0, 30)))))])) (.leaf (10, 102, 11, .inr 3, [((1, []), .inr (.inl 13))])))) (.branch 16 (.leaf (14, 104, 7, .inr 3, [((1, []), zaI), ((3, []), .inr (.inr (.inr (.inl (0, 540))))), ((5, []), .inr (.inl 16))])) (.branch 22 (.leaf (17, 0, 540, .inr 1, [])) (.leaf (23, 105, 6, .inr 3, [((0, []), zaI), ((1, []), .inr (.inr (.inr (.inl (0, 1600))))), ((2, []), .inr (.inr (.inr (.inl (0, 1600))))), ((3, []), zaI), ((4, []), .inr (.inl 7)), ((5, []), .inr (.inr (.inr (.inl (0, 1600)))))])))), zw_5026, [], zp_5026.map (fun p => p.1))
def zu_5026 : List zCu := [(([(43, 5, [(2, .inl (0, [(0, 1)])), (0, .inr (.inl 8)), (1, .inl (5, []))], [])], .branch 13 (.branch 8 (.leaf (8, 1, 1600, .inl ((-128), 127), [])) (.branch 9 (.leaf (9, 101, 8, .inr 3, [((0, []), .inr (.inl 9)), ((3, []), .inr (.inl 22)), ((1, []), zaI), ((2, []), zaI), ((5, []), .inr (.inr (.inr (.inl (0, 30)))))])) (.leaf (10, 102, 11, .inr 3, [((1, []), .inr (.inl 13))])))) (.branch 16 (.leaf (14, 104, 7, .inr 3, [((5, []), .inr (.inl 16)), ((1, []), zaI), ((3, []), .inr (.inr (.inr (.inl (0, 540)))))])) (.branch 22 (.leaf (17, 0, 540, .inr 1, [])) (.leaf (23, 105, 6, .inr 3, [((4, []), .inr (.inl 7)), ((5, []), .inr (.inr (.inr (.inl (0, 1600))))), ((0, []), zaI), ((1, []), .inr (.inr (.inr (.inl (0, 1600))))), ((2, []), .inr (.inr (.inr (.inl (0, 1600))))), ((3, []), zaI)])))), [(0, 30)], [], []), [.inl (0, 2)], (30, [(0, (-1))]))]
def zs_5026 : List zCt := [zc_5025, zc_5005]
theorem za_5026 : zwin zw_5026 zc_5026.2.2.2.2.2.1 = true := by decide +kernel
theorem z0_5026 : zst0 mi_P zw_5026 [] [] (fun d y as t en => zcal zw_5026 d y as t en zs_5026) zc_5026 zp_5026 zu_5026 408 = true := by decide +kernel
theorem zk_5026 : zu_5026.all (zck mi_P zc_5026.2.1 zw_5026 false [] [] (fun d y as t en => zcal zw_5026 d y as t en zs_5026) zc_5026.2.2.2.1.length zc_5026.2.2.2.1 zc_5026.2.2.2.2.2.1 zp_5026 zu_5026 408) = true := by decide +kernel
theorem zt_5026 {S : Nat × (Nat → Int32)} : zCtr mi_P S zTt zc_5026 := by
  have hc : ∀ c ∈ zs_5026, zCtr mi_P S zTt c := by
    intro c hc
    simp only [zs_5026, List.mem_cons, List.not_mem_nil, or_false] at hc
    rcases hc with rfl | rfl
    · exact zt_5025
    · exact zt_5005
  exact zCtr_of (Om := zTt) (ct := zc_5026) (ps := zp_5026) (fun _ _ _ _ => trivial) rfl hc za_5026 z0_5026 zk_5026
/-- L$Reader.readRelation(I)V -/
def zw_5027 : zW := .branch 16 (.branch 13 (.leaf (9, [1, 2, 5])) (.leaf (14, [1, 3]))) (.branch 22 (.leaf (17, [0])) (.leaf (23, [0, 1, 2, 3])))
def zp_5027 : List (zPo × List (Nat ⊕ (Nat × zL))) := [(([], [], [(8, [((1, []), zaI), ((2, []), zaI), ((5, []), .inr (.inr (.inr (.inl (0, 30)))))]), (13, [((1, []), zaI), ((3, []), .inr (.inr (.inr (.inl (0, 540)))))]), (16, []), (22, [((0, []), zaI), ((1, []), .inr (.inr (.inr (.inl (0, 1600))))), ((2, []), .inr (.inr (.inr (.inl (0, 1600))))), ((3, []), zaI)])], none), [])]
def zc_5027 : zCt := (42, 24, [.inr (.inl 8), .inl (5, [])], [], [], .branch 13 (.branch 8 (.leaf (8, 1, 1600, .inl ((-128), 127), [])) (.branch 9 (.leaf (9, 101, 8, .inr 3, [((0, []), .inr (.inl 9)), ((1, []), zaI), ((2, []), zaI), ((3, []), .inr (.inl 22)), ((5, []), .inr (.inr (.inr (.inl (0, 30)))))])) (.leaf (10, 102, 11, .inr 3, [((1, []), .inr (.inl 13))])))) (.branch 16 (.leaf (14, 104, 7, .inr 3, [((1, []), zaI), ((3, []), .inr (.inr (.inr (.inl (0, 540))))), ((5, []), .inr (.inl 16))])) (.branch 22 (.leaf (17, 0, 540, .inr 1, [])) (.leaf (23, 105, 6, .inr 3, [((0, []), zaI), ((1, []), .inr (.inr (.inr (.inl (0, 1600))))), ((2, []), .inr (.inr (.inr (.inl (0, 1600))))), ((3, []), zaI), ((4, []), .inr (.inl 7)), ((5, []), .inr (.inr (.inr (.inl (0, 1600)))))])))), zw_5027, [], zp_5027.map (fun p => p.1))
def zu_5027 : List zCu := []
def zs_5027 : List zCt := [zc_5026, zc_5005]
theorem za_5027 : zwin zw_5027 zc_5027.2.2.2.2.2.1 = true := by decide +kernel
theorem z0_5027 : zst0 mi_P zw_5027 [] [] (fun d y as t en => zcal zw_5027 d y as t en zs_5027) zc_5027 zp_5027 zu_5027 470 = true := by decide +kernel
theorem zk_5027 : zu_5027.all (zck mi_P zc_5027.2.1 zw_5027 false [] [] (fun d y as t en => zcal zw_5027 d y as t en zs_5027) zc_5027.2.2.2.1.length zc_5027.2.2.2.1 zc_5027.2.2.2.2.2.1 zp_5027 zu_5027 470) = true := by decide +kernel
theorem zt_5027 {S : Nat × (Nat → Int32)} : zCtr mi_P S zTt zc_5027 := by
  have hc : ∀ c ∈ zs_5027, zCtr mi_P S zTt c := by
    intro c hc
    simp only [zs_5027, List.mem_cons, List.not_mem_nil, or_false] at hc
    rcases hc with rfl | rfl
    · exact zt_5026
    · exact zt_5005
  exact zCtr_of (Om := zTt) (ct := zc_5027) (ps := zp_5027) (fun _ _ _ _ => trivial) rfl hc za_5027 z0_5027 zk_5027
/-- L$Reader.readOne(I)V -/
def zw_5028 : zW := .branch 16 (.branch 13 (.leaf (9, [1, 2, 5])) (.leaf (14, [1, 3]))) (.branch 22 (.leaf (17, [0])) (.leaf (23, [0, 1, 2, 3])))
def zp_5028 : List (zPo × List (Nat ⊕ (Nat × zL))) := [(([], [], [(8, [((1, []), zaI), ((2, []), zaI), ((5, []), .inr (.inr (.inr (.inl (0, 30)))))]), (13, [((1, []), zaI), ((3, []), .inr (.inr (.inr (.inl (0, 540)))))]), (16, []), (22, [((0, []), zaI), ((1, []), .inr (.inr (.inr (.inl (0, 1600))))), ((2, []), .inr (.inr (.inr (.inl (0, 1600))))), ((3, []), zaI)])], none), [])]
def zc_5028 : zCt := (41, 25, [.inr (.inl 8), .inl (5, [])], [], [], .branch 13 (.branch 8 (.leaf (8, 1, 1600, .inl ((-128), 127), [])) (.branch 9 (.leaf (9, 101, 8, .inr 3, [((0, []), .inr (.inl 9)), ((1, []), zaI), ((2, []), zaI), ((3, []), .inr (.inl 22)), ((5, []), .inr (.inr (.inr (.inl (0, 30)))))])) (.leaf (10, 102, 11, .inr 3, [((1, []), .inr (.inl 13))])))) (.branch 16 (.leaf (14, 104, 7, .inr 3, [((1, []), zaI), ((3, []), .inr (.inr (.inr (.inl (0, 540))))), ((5, []), .inr (.inl 16))])) (.branch 22 (.leaf (17, 0, 540, .inr 1, [])) (.leaf (23, 105, 6, .inr 3, [((0, []), zaI), ((1, []), .inr (.inr (.inr (.inl (0, 1600))))), ((2, []), .inr (.inr (.inr (.inl (0, 1600))))), ((3, []), zaI), ((4, []), .inr (.inl 7)), ((5, []), .inr (.inr (.inr (.inl (0, 1600)))))])))), zw_5028, [], zp_5028.map (fun p => p.1))
def zu_5028 : List zCu := []
def zs_5028 : List zCt := [zc_5005, zc_5021, zc_5027]
theorem za_5028 : zwin zw_5028 zc_5028.2.2.2.2.2.1 = true := by decide +kernel
theorem z0_5028 : zst0 mi_P zw_5028 [] [] (fun d y as t en => zcal zw_5028 d y as t en zs_5028) zc_5028 zp_5028 zu_5028 296 = true := by decide +kernel
theorem zk_5028 : zu_5028.all (zck mi_P zc_5028.2.1 zw_5028 false [] [] (fun d y as t en => zcal zw_5028 d y as t en zs_5028) zc_5028.2.2.2.1.length zc_5028.2.2.2.1 zc_5028.2.2.2.2.2.1 zp_5028 zu_5028 296) = true := by decide +kernel
theorem zt_5028 {S : Nat × (Nat → Int32)} : zCtr mi_P S zTt zc_5028 := by
  have hc : ∀ c ∈ zs_5028, zCtr mi_P S zTt c := by
    intro c hc
    simp only [zs_5028, List.mem_cons, List.not_mem_nil, or_false] at hc
    rcases hc with rfl | rfl | rfl
    · exact zt_5005
    · exact zt_5021
    · exact zt_5027
  exact zCtr_of (Om := zTt) (ct := zc_5028) (ps := zp_5028) (fun _ _ _ _ => trivial) rfl hc za_5028 z0_5028 zk_5028
/-- L$Reader.readAnds(I)V -/
def zw_5029 : zW := .branch 16 (.branch 13 (.leaf (9, [1, 2, 5])) (.leaf (14, [1, 3]))) (.branch 22 (.leaf (17, [0])) (.leaf (23, [0, 1, 2, 3])))
def zp_5029 : List (zPo × List (Nat ⊕ (Nat × zL))) := [(([], [], [(8, [((1, []), zaI), ((2, []), zaI), ((5, []), .inr (.inr (.inr (.inl (0, 30)))))]), (13, [((1, []), zaI), ((3, []), .inr (.inr (.inr (.inl (0, 540)))))]), (16, []), (22, [((0, []), zaI), ((1, []), .inr (.inr (.inr (.inl (0, 1600))))), ((2, []), .inr (.inr (.inr (.inl (0, 1600))))), ((3, []), zaI)])], none), [])]
def zc_5029 : zCt := (40, 26, [.inr (.inl 8), .inl (5, [])], [], [], .branch 13 (.branch 8 (.leaf (8, 1, 1600, .inl ((-128), 127), [])) (.branch 9 (.leaf (9, 101, 8, .inr 3, [((0, []), .inr (.inl 9)), ((1, []), zaI), ((2, []), zaI), ((3, []), .inr (.inl 22)), ((5, []), .inr (.inr (.inr (.inl (0, 30)))))])) (.leaf (10, 102, 11, .inr 3, [((1, []), .inr (.inl 13))])))) (.branch 16 (.leaf (14, 104, 7, .inr 3, [((1, []), zaI), ((3, []), .inr (.inr (.inr (.inl (0, 540))))), ((5, []), .inr (.inl 16))])) (.branch 22 (.leaf (17, 0, 540, .inr 1, [])) (.leaf (23, 105, 6, .inr 3, [((0, []), zaI), ((1, []), .inr (.inr (.inr (.inl (0, 1600))))), ((2, []), .inr (.inr (.inr (.inl (0, 1600))))), ((3, []), zaI), ((4, []), .inr (.inl 7)), ((5, []), .inr (.inr (.inr (.inl (0, 1600)))))])))), zw_5029, [], zp_5029.map (fun p => p.1))
def zu_5029 : List zCu := [(([(40, 5, [(2, .inl (0, [(0, 1)])), (0, .inr (.inl 8)), (1, .inl (5, []))], [])], .branch 13 (.branch 8 (.leaf (8, 1, 1600, .inl ((-128), 127), [])) (.branch 9 (.leaf (9, 101, 8, .inr 3, [((0, []), .inr (.inl 9)), ((3, []), .inr (.inl 22)), ((1, []), zaI), ((2, []), zaI), ((5, []), .inr (.inr (.inr (.inl (0, 30)))))])) (.leaf (10, 102, 11, .inr 3, [((1, []), .inr (.inl 13))])))) (.branch 16 (.leaf (14, 104, 7, .inr 3, [((5, []), .inr (.inl 16)), ((1, []), zaI), ((3, []), .inr (.inr (.inr (.inl (0, 540)))))])) (.branch 22 (.leaf (17, 0, 540, .inr 1, [])) (.leaf (23, 105, 6, .inr 3, [((4, []), .inr (.inl 7)), ((5, []), .inr (.inr (.inr (.inl (0, 1600))))), ((0, []), zaI), ((1, []), .inr (.inr (.inr (.inl (0, 1600))))), ((2, []), .inr (.inr (.inr (.inl (0, 1600))))), ((3, []), zaI)])))), [(0, 30)], [], []), [.inl (0, 2)], (30, [(0, (-1))]))]
def zs_5029 : List zCt := [zc_5028, zc_5005]
theorem za_5029 : zwin zw_5029 zc_5029.2.2.2.2.2.1 = true := by decide +kernel
theorem z0_5029 : zst0 mi_P zw_5029 [] [] (fun d y as t en => zcal zw_5029 d y as t en zs_5029) zc_5029 zp_5029 zu_5029 292 = true := by decide +kernel
theorem zk_5029 : zu_5029.all (zck mi_P zc_5029.2.1 zw_5029 false [] [] (fun d y as t en => zcal zw_5029 d y as t en zs_5029) zc_5029.2.2.2.1.length zc_5029.2.2.2.1 zc_5029.2.2.2.2.2.1 zp_5029 zu_5029 292) = true := by decide +kernel
theorem zt_5029 {S : Nat × (Nat → Int32)} : zCtr mi_P S zTt zc_5029 := by
  have hc : ∀ c ∈ zs_5029, zCtr mi_P S zTt c := by
    intro c hc
    simp only [zs_5029, List.mem_cons, List.not_mem_nil, or_false] at hc
    rcases hc with rfl | rfl
    · exact zt_5028
    · exact zt_5005
  exact zCtr_of (Om := zTt) (ct := zc_5029) (ps := zp_5029) (fun _ _ _ _ => trivial) rfl hc za_5029 z0_5029 zk_5029
/-- L$Reader.readOrs(I)V -/
def zw_5030 : zW := .branch 16 (.branch 13 (.leaf (9, [1, 2, 5])) (.leaf (14, [1, 3]))) (.branch 22 (.leaf (17, [0])) (.leaf (23, [0, 1, 2, 3])))
def zp_5030 : List (zPo × List (Nat ⊕ (Nat × zL))) := [(([], [], [(8, [((1, []), zaI), ((2, []), zaI), ((5, []), .inr (.inr (.inr (.inl (0, 30)))))]), (13, [((1, []), zaI), ((3, []), .inr (.inr (.inr (.inl (0, 540)))))]), (16, []), (22, [((0, []), zaI), ((1, []), .inr (.inr (.inr (.inl (0, 1600))))), ((2, []), .inr (.inr (.inr (.inl (0, 1600))))), ((3, []), zaI)])], none), [])]
def zc_5030 : zCt := (39, 27, [.inr (.inl 8), .inl (5, [])], [], [], .branch 13 (.branch 8 (.leaf (8, 1, 1600, .inl ((-128), 127), [])) (.branch 9 (.leaf (9, 101, 8, .inr 3, [((0, []), .inr (.inl 9)), ((1, []), zaI), ((2, []), zaI), ((3, []), .inr (.inl 22)), ((5, []), .inr (.inr (.inr (.inl (0, 30)))))])) (.leaf (10, 102, 11, .inr 3, [((1, []), .inr (.inl 13))])))) (.branch 16 (.leaf (14, 104, 7, .inr 3, [((1, []), zaI), ((3, []), .inr (.inr (.inr (.inl (0, 540))))), ((5, []), .inr (.inl 16))])) (.branch 22 (.leaf (17, 0, 540, .inr 1, [])) (.leaf (23, 105, 6, .inr 3, [((0, []), zaI), ((1, []), .inr (.inr (.inr (.inl (0, 1600))))), ((2, []), .inr (.inr (.inr (.inl (0, 1600))))), ((3, []), zaI), ((4, []), .inr (.inl 7)), ((5, []), .inr (.inr (.inr (.inl (0, 1600)))))])))), zw_5030, [], zp_5030.map (fun p => p.1))
def zu_5030 : List zCu := [(([(39, 5, [(2, .inl (0, [(0, 1)])), (0, .inr (.inl 8)), (1, .inl (5, []))], [])], .branch 13 (.branch 8 (.leaf (8, 1, 1600, .inl ((-128), 127), [])) (.branch 9 (.leaf (9, 101, 8, .inr 3, [((0, []), .inr (.inl 9)), ((3, []), .inr (.inl 22)), ((1, []), zaI), ((2, []), zaI), ((5, []), .inr (.inr (.inr (.inl (0, 30)))))])) (.leaf (10, 102, 11, .inr 3, [((1, []), .inr (.inl 13))])))) (.branch 16 (.leaf (14, 104, 7, .inr 3, [((5, []), .inr (.inl 16)), ((1, []), zaI), ((3, []), .inr (.inr (.inr (.inl (0, 540)))))])) (.branch 22 (.leaf (17, 0, 540, .inr 1, [])) (.leaf (23, 105, 6, .inr 3, [((4, []), .inr (.inl 7)), ((5, []), .inr (.inr (.inr (.inl (0, 1600))))), ((0, []), zaI), ((1, []), .inr (.inr (.inr (.inl (0, 1600))))), ((2, []), .inr (.inr (.inr (.inl (0, 1600))))), ((3, []), zaI)])))), [(0, 30)], [], []), [.inl (0, 2)], (30, [(0, (-1))]))]
def zs_5030 : List zCt := [zc_5029, zc_5005]
theorem za_5030 : zwin zw_5030 zc_5030.2.2.2.2.2.1 = true := by decide +kernel
theorem z0_5030 : zst0 mi_P zw_5030 [] [] (fun d y as t en => zcal zw_5030 d y as t en zs_5030) zc_5030 zp_5030 zu_5030 292 = true := by decide +kernel
theorem zk_5030 : zu_5030.all (zck mi_P zc_5030.2.1 zw_5030 false [] [] (fun d y as t en => zcal zw_5030 d y as t en zs_5030) zc_5030.2.2.2.1.length zc_5030.2.2.2.1 zc_5030.2.2.2.2.2.1 zp_5030 zu_5030 292) = true := by decide +kernel
theorem zt_5030 {S : Nat × (Nat → Int32)} : zCtr mi_P S zTt zc_5030 := by
  have hc : ∀ c ∈ zs_5030, zCtr mi_P S zTt c := by
    intro c hc
    simp only [zs_5030, List.mem_cons, List.not_mem_nil, or_false] at hc
    rcases hc with rfl | rfl
    · exact zt_5029
    · exact zt_5005
  exact zCtr_of (Om := zTt) (ct := zc_5030) (ps := zp_5030) (fun _ _ _ _ => trivial) rfl hc za_5030 z0_5030 zk_5030
/-- L$Reader.readUnit(I)V -/
def zw_5031 : zW := .branch 16 (.branch 13 (.leaf (9, [1, 2, 5])) (.leaf (14, [1, 3]))) (.branch 22 (.leaf (17, [0])) (.leaf (23, [0, 1, 2, 3])))
def zp_5031 : List (zPo × List (Nat ⊕ (Nat × zL))) := [(([], [], [(8, [((1, []), zaI), ((2, []), zaI), ((5, []), .inr (.inr (.inr (.inl (0, 30)))))]), (13, [((1, []), zaI), ((3, []), .inr (.inr (.inr (.inl (0, 540)))))]), (16, []), (22, [((0, []), zaI), ((1, []), .inr (.inr (.inr (.inl (0, 1600))))), ((2, []), .inr (.inr (.inr (.inl (0, 1600))))), ((3, []), zaI)])], none), [])]
def zc_5031 : zCt := (45, 28, [.inr (.inl 8), .inl (4, [])], [], [], .branch 13 (.branch 8 (.leaf (8, 1, 1600, .inl ((-128), 127), [])) (.branch 9 (.leaf (9, 101, 8, .inr 3, [((0, []), .inr (.inl 9)), ((1, []), zaI), ((2, []), zaI), ((3, []), .inr (.inl 22)), ((5, []), .inr (.inr (.inr (.inl (0, 30)))))])) (.leaf (10, 102, 11, .inr 3, [((1, []), .inr (.inl 13))])))) (.branch 16 (.leaf (14, 104, 7, .inr 3, [((1, []), zaI), ((3, []), .inr (.inr (.inr (.inl (0, 540))))), ((5, []), .inr (.inl 16))])) (.branch 22 (.leaf (17, 0, 540, .inr 1, [])) (.leaf (23, 105, 6, .inr 3, [((0, []), zaI), ((1, []), .inr (.inr (.inr (.inl (0, 1600))))), ((2, []), .inr (.inr (.inr (.inl (0, 1600))))), ((3, []), zaI), ((4, []), .inr (.inl 7)), ((5, []), .inr (.inr (.inr (.inl (0, 1600)))))])))), zw_5031, [], zp_5031.map (fun p => p.1))
def zu_5031 : List zCu := []
def zs_5031 : List zCt := [zc_5007, zc_5005, zc_5030]
theorem za_5031 : zwin zw_5031 zc_5031.2.2.2.2.2.1 = true := by decide +kernel
theorem z0_5031 : zst0 mi_P zw_5031 [] [] (fun d y as t en => zcal zw_5031 d y as t en zs_5031) zc_5031 zp_5031 zu_5031 916 = true := by decide +kernel
theorem zk_5031 : zu_5031.all (zck mi_P zc_5031.2.1 zw_5031 false [] [] (fun d y as t en => zcal zw_5031 d y as t en zs_5031) zc_5031.2.2.2.1.length zc_5031.2.2.2.1 zc_5031.2.2.2.2.2.1 zp_5031 zu_5031 916) = true := by decide +kernel
theorem zt_5031 {S : Nat × (Nat → Int32)} : zCtr mi_P S zTt zc_5031 := by
  have hc : ∀ c ∈ zs_5031, zCtr mi_P S zTt c := by
    intro c hc
    simp only [zs_5031, List.mem_cons, List.not_mem_nil, or_false] at hc
    rcases hc with rfl | rfl | rfl
    · exact zt_5007
    · exact zt_5005
    · exact zt_5030
  exact zCtr_of (Om := zTt) (ct := zc_5031) (ps := zp_5031) (fun _ _ _ _ => trivial) rfl hc za_5031 z0_5031 zk_5031
/-- L$Reader.readTerm(I)V -/
def zw_5032 : zW := .branch 16 (.branch 13 (.leaf (9, [1, 2, 5])) (.leaf (14, [1, 3]))) (.branch 22 (.leaf (17, [0])) (.leaf (23, [0, 1, 2, 3])))
def zp_5032 : List (zPo × List (Nat ⊕ (Nat × zL))) := [(([], [], [(8, [((1, []), zaI), ((2, []), zaI), ((5, []), .inr (.inr (.inr (.inl (0, 30)))))]), (13, [((1, []), zaI), ((3, []), .inr (.inr (.inr (.inl (0, 540)))))]), (16, []), (22, [((0, []), zaI), ((1, []), .inr (.inr (.inr (.inl (0, 1600))))), ((2, []), .inr (.inr (.inr (.inl (0, 1600))))), ((3, []), zaI)])], none), [])]
def zc_5032 : zCt := (44, 29, [.inr (.inl 8), .inl (4, [])], [], [], .branch 13 (.branch 8 (.leaf (8, 1, 1600, .inl ((-128), 127), [])) (.branch 9 (.leaf (9, 101, 8, .inr 3, [((0, []), .inr (.inl 9)), ((1, []), zaI), ((2, []), zaI), ((3, []), .inr (.inl 22)), ((5, []), .inr (.inr (.inr (.inl (0, 30)))))])) (.leaf (10, 102, 11, .inr 3, [((1, []), .inr (.inl 13))])))) (.branch 16 (.leaf (14, 104, 7, .inr 3, [((1, []), zaI), ((3, []), .inr (.inr (.inr (.inl (0, 540))))), ((5, []), .inr (.inl 16))])) (.branch 22 (.leaf (17, 0, 540, .inr 1, [])) (.leaf (23, 105, 6, .inr 3, [((0, []), zaI), ((1, []), .inr (.inr (.inr (.inl (0, 1600))))), ((2, []), .inr (.inr (.inr (.inl (0, 1600))))), ((3, []), zaI), ((4, []), .inr (.inl 7)), ((5, []), .inr (.inr (.inr (.inl (0, 1600)))))])))), zw_5032, [], zp_5032.map (fun p => p.1))
def zu_5032 : List zCu := [(([(44, 5, [(2, .inl (0, [(0, 1)])), (0, .inr (.inl 8)), (1, .inl (4, []))], [])], .branch 13 (.branch 8 (.leaf (8, 1, 1600, .inl ((-128), 127), [])) (.branch 9 (.leaf (9, 101, 8, .inr 3, [((0, []), .inr (.inl 9)), ((3, []), .inr (.inl 22)), ((1, []), zaI), ((2, []), zaI), ((5, []), .inr (.inr (.inr (.inl (0, 30)))))])) (.leaf (10, 102, 11, .inr 3, [((1, []), .inr (.inl 13))])))) (.branch 16 (.leaf (14, 104, 7, .inr 3, [((5, []), .inr (.inl 16)), ((1, []), zaI), ((3, []), .inr (.inr (.inr (.inl (0, 540)))))])) (.branch 22 (.leaf (17, 0, 540, .inr 1, [])) (.leaf (23, 105, 6, .inr 3, [((4, []), .inr (.inl 7)), ((5, []), .inr (.inr (.inr (.inl (0, 1600))))), ((0, []), zaI), ((1, []), .inr (.inr (.inr (.inl (0, 1600))))), ((2, []), .inr (.inr (.inr (.inl (0, 1600))))), ((3, []), zaI)])))), [(0, 30)], [], []), [.inl (0, 2)], (30, [(0, (-1))]))]
def zs_5032 : List zCt := [zc_5031, zc_5005]
theorem za_5032 : zwin zw_5032 zc_5032.2.2.2.2.2.1 = true := by decide +kernel
theorem z0_5032 : zst0 mi_P zw_5032 [] [] (fun d y as t en => zcal zw_5032 d y as t en zs_5032) zc_5032 zp_5032 zu_5032 548 = true := by decide +kernel
theorem zk_5032 : zu_5032.all (zck mi_P zc_5032.2.1 zw_5032 false [] [] (fun d y as t en => zcal zw_5032 d y as t en zs_5032) zc_5032.2.2.2.1.length zc_5032.2.2.2.1 zc_5032.2.2.2.2.2.1 zp_5032 zu_5032 548) = true := by decide +kernel
theorem zt_5032 {S : Nat × (Nat → Int32)} : zCtr mi_P S zTt zc_5032 := by
  have hc : ∀ c ∈ zs_5032, zCtr mi_P S zTt c := by
    intro c hc
    simp only [zs_5032, List.mem_cons, List.not_mem_nil, or_false] at hc
    rcases hc with rfl | rfl
    · exact zt_5031
    · exact zt_5005
  exact zCtr_of (Om := zTt) (ct := zc_5032) (ps := zp_5032) (fun _ _ _ _ => trivial) rfl hc za_5032 z0_5032 zk_5032
/-- L$Reader.readSum(I)V -/
def zw_5033 : zW := .branch 16 (.branch 13 (.leaf (9, [1, 2, 5])) (.leaf (14, [1, 3]))) (.branch 22 (.leaf (17, [0])) (.leaf (23, [0, 1, 2, 3])))
def zp_5033 : List (zPo × List (Nat ⊕ (Nat × zL))) := [(([], [], [(8, [((1, []), zaI), ((2, []), zaI), ((5, []), .inr (.inr (.inr (.inl (0, 30)))))]), (13, [((1, []), zaI), ((3, []), .inr (.inr (.inr (.inl (0, 540)))))]), (16, []), (22, [((0, []), zaI), ((1, []), .inr (.inr (.inr (.inl (0, 1600))))), ((2, []), .inr (.inr (.inr (.inl (0, 1600))))), ((3, []), zaI)])], none), [])]
def zc_5033 : zCt := (43, 30, [.inr (.inl 8), .inl (4, [])], [], [], .branch 13 (.branch 8 (.leaf (8, 1, 1600, .inl ((-128), 127), [])) (.branch 9 (.leaf (9, 101, 8, .inr 3, [((0, []), .inr (.inl 9)), ((1, []), zaI), ((2, []), zaI), ((3, []), .inr (.inl 22)), ((5, []), .inr (.inr (.inr (.inl (0, 30)))))])) (.leaf (10, 102, 11, .inr 3, [((1, []), .inr (.inl 13))])))) (.branch 16 (.leaf (14, 104, 7, .inr 3, [((1, []), zaI), ((3, []), .inr (.inr (.inr (.inl (0, 540))))), ((5, []), .inr (.inl 16))])) (.branch 22 (.leaf (17, 0, 540, .inr 1, [])) (.leaf (23, 105, 6, .inr 3, [((0, []), zaI), ((1, []), .inr (.inr (.inr (.inl (0, 1600))))), ((2, []), .inr (.inr (.inr (.inl (0, 1600))))), ((3, []), zaI), ((4, []), .inr (.inl 7)), ((5, []), .inr (.inr (.inr (.inl (0, 1600)))))])))), zw_5033, [], zp_5033.map (fun p => p.1))
def zu_5033 : List zCu := [(([(43, 5, [(2, .inl (0, [(0, 1)])), (0, .inr (.inl 8)), (1, .inl (4, []))], [])], .branch 13 (.branch 8 (.leaf (8, 1, 1600, .inl ((-128), 127), [])) (.branch 9 (.leaf (9, 101, 8, .inr 3, [((0, []), .inr (.inl 9)), ((3, []), .inr (.inl 22)), ((1, []), zaI), ((2, []), zaI), ((5, []), .inr (.inr (.inr (.inl (0, 30)))))])) (.leaf (10, 102, 11, .inr 3, [((1, []), .inr (.inl 13))])))) (.branch 16 (.leaf (14, 104, 7, .inr 3, [((5, []), .inr (.inl 16)), ((1, []), zaI), ((3, []), .inr (.inr (.inr (.inl (0, 540)))))])) (.branch 22 (.leaf (17, 0, 540, .inr 1, [])) (.leaf (23, 105, 6, .inr 3, [((4, []), .inr (.inl 7)), ((5, []), .inr (.inr (.inr (.inl (0, 1600))))), ((0, []), zaI), ((1, []), .inr (.inr (.inr (.inl (0, 1600))))), ((2, []), .inr (.inr (.inr (.inl (0, 1600))))), ((3, []), zaI)])))), [(0, 30)], [], []), [.inl (0, 2)], (30, [(0, (-1))]))]
def zs_5033 : List zCt := [zc_5032, zc_5005]
theorem za_5033 : zwin zw_5033 zc_5033.2.2.2.2.2.1 = true := by decide +kernel
theorem z0_5033 : zst0 mi_P zw_5033 [] [] (fun d y as t en => zcal zw_5033 d y as t en zs_5033) zc_5033 zp_5033 zu_5033 408 = true := by decide +kernel
theorem zk_5033 : zu_5033.all (zck mi_P zc_5033.2.1 zw_5033 false [] [] (fun d y as t en => zcal zw_5033 d y as t en zs_5033) zc_5033.2.2.2.1.length zc_5033.2.2.2.1 zc_5033.2.2.2.2.2.1 zp_5033 zu_5033 408) = true := by decide +kernel
theorem zt_5033 {S : Nat × (Nat → Int32)} : zCtr mi_P S zTt zc_5033 := by
  have hc : ∀ c ∈ zs_5033, zCtr mi_P S zTt c := by
    intro c hc
    simp only [zs_5033, List.mem_cons, List.not_mem_nil, or_false] at hc
    rcases hc with rfl | rfl
    · exact zt_5032
    · exact zt_5005
  exact zCtr_of (Om := zTt) (ct := zc_5033) (ps := zp_5033) (fun _ _ _ _ => trivial) rfl hc za_5033 z0_5033 zk_5033
/-- L$Reader.readRelation(I)V -/
def zw_5034 : zW := .branch 16 (.branch 13 (.leaf (9, [1, 2, 5])) (.leaf (14, [1, 3]))) (.branch 22 (.leaf (17, [0])) (.leaf (23, [0, 1, 2, 3])))
def zp_5034 : List (zPo × List (Nat ⊕ (Nat × zL))) := [(([], [], [(8, [((1, []), zaI), ((2, []), zaI), ((5, []), .inr (.inr (.inr (.inl (0, 30)))))]), (13, [((1, []), zaI), ((3, []), .inr (.inr (.inr (.inl (0, 540)))))]), (16, []), (22, [((0, []), zaI), ((1, []), .inr (.inr (.inr (.inl (0, 1600))))), ((2, []), .inr (.inr (.inr (.inl (0, 1600))))), ((3, []), zaI)])], none), [])]
def zc_5034 : zCt := (42, 31, [.inr (.inl 8), .inl (4, [])], [], [], .branch 13 (.branch 8 (.leaf (8, 1, 1600, .inl ((-128), 127), [])) (.branch 9 (.leaf (9, 101, 8, .inr 3, [((0, []), .inr (.inl 9)), ((1, []), zaI), ((2, []), zaI), ((3, []), .inr (.inl 22)), ((5, []), .inr (.inr (.inr (.inl (0, 30)))))])) (.leaf (10, 102, 11, .inr 3, [((1, []), .inr (.inl 13))])))) (.branch 16 (.leaf (14, 104, 7, .inr 3, [((1, []), zaI), ((3, []), .inr (.inr (.inr (.inl (0, 540))))), ((5, []), .inr (.inl 16))])) (.branch 22 (.leaf (17, 0, 540, .inr 1, [])) (.leaf (23, 105, 6, .inr 3, [((0, []), zaI), ((1, []), .inr (.inr (.inr (.inl (0, 1600))))), ((2, []), .inr (.inr (.inr (.inl (0, 1600))))), ((3, []), zaI), ((4, []), .inr (.inl 7)), ((5, []), .inr (.inr (.inr (.inl (0, 1600)))))])))), zw_5034, [], zp_5034.map (fun p => p.1))
def zu_5034 : List zCu := []
def zs_5034 : List zCt := [zc_5033, zc_5005]
theorem za_5034 : zwin zw_5034 zc_5034.2.2.2.2.2.1 = true := by decide +kernel
theorem z0_5034 : zst0 mi_P zw_5034 [] [] (fun d y as t en => zcal zw_5034 d y as t en zs_5034) zc_5034 zp_5034 zu_5034 470 = true := by decide +kernel
theorem zk_5034 : zu_5034.all (zck mi_P zc_5034.2.1 zw_5034 false [] [] (fun d y as t en => zcal zw_5034 d y as t en zs_5034) zc_5034.2.2.2.1.length zc_5034.2.2.2.1 zc_5034.2.2.2.2.2.1 zp_5034 zu_5034 470) = true := by decide +kernel
theorem zt_5034 {S : Nat × (Nat → Int32)} : zCtr mi_P S zTt zc_5034 := by
  have hc : ∀ c ∈ zs_5034, zCtr mi_P S zTt c := by
    intro c hc
    simp only [zs_5034, List.mem_cons, List.not_mem_nil, or_false] at hc
    rcases hc with rfl | rfl
    · exact zt_5033
    · exact zt_5005
  exact zCtr_of (Om := zTt) (ct := zc_5034) (ps := zp_5034) (fun _ _ _ _ => trivial) rfl hc za_5034 z0_5034 zk_5034
/-- L$Reader.readOne(I)V -/
def zw_5035 : zW := .branch 16 (.branch 13 (.leaf (9, [1, 2, 5])) (.leaf (14, [1, 3]))) (.branch 22 (.leaf (17, [0])) (.leaf (23, [0, 1, 2, 3])))
def zp_5035 : List (zPo × List (Nat ⊕ (Nat × zL))) := [(([], [], [(8, [((1, []), zaI), ((2, []), zaI), ((5, []), .inr (.inr (.inr (.inl (0, 30)))))]), (13, [((1, []), zaI), ((3, []), .inr (.inr (.inr (.inl (0, 540)))))]), (16, []), (22, [((0, []), zaI), ((1, []), .inr (.inr (.inr (.inl (0, 1600))))), ((2, []), .inr (.inr (.inr (.inl (0, 1600))))), ((3, []), zaI)])], none), [])]
def zc_5035 : zCt := (41, 32, [.inr (.inl 8), .inl (4, [])], [], [], .branch 13 (.branch 8 (.leaf (8, 1, 1600, .inl ((-128), 127), [])) (.branch 9 (.leaf (9, 101, 8, .inr 3, [((0, []), .inr (.inl 9)), ((1, []), zaI), ((2, []), zaI), ((3, []), .inr (.inl 22)), ((5, []), .inr (.inr (.inr (.inl (0, 30)))))])) (.leaf (10, 102, 11, .inr 3, [((1, []), .inr (.inl 13))])))) (.branch 16 (.leaf (14, 104, 7, .inr 3, [((1, []), zaI), ((3, []), .inr (.inr (.inr (.inl (0, 540))))), ((5, []), .inr (.inl 16))])) (.branch 22 (.leaf (17, 0, 540, .inr 1, [])) (.leaf (23, 105, 6, .inr 3, [((0, []), zaI), ((1, []), .inr (.inr (.inr (.inl (0, 1600))))), ((2, []), .inr (.inr (.inr (.inl (0, 1600))))), ((3, []), zaI), ((4, []), .inr (.inl 7)), ((5, []), .inr (.inr (.inr (.inl (0, 1600)))))])))), zw_5035, [], zp_5035.map (fun p => p.1))
def zu_5035 : List zCu := []
def zs_5035 : List zCt := [zc_5005, zc_5028, zc_5034]
theorem za_5035 : zwin zw_5035 zc_5035.2.2.2.2.2.1 = true := by decide +kernel
theorem z0_5035 : zst0 mi_P zw_5035 [] [] (fun d y as t en => zcal zw_5035 d y as t en zs_5035) zc_5035 zp_5035 zu_5035 296 = true := by decide +kernel
theorem zk_5035 : zu_5035.all (zck mi_P zc_5035.2.1 zw_5035 false [] [] (fun d y as t en => zcal zw_5035 d y as t en zs_5035) zc_5035.2.2.2.1.length zc_5035.2.2.2.1 zc_5035.2.2.2.2.2.1 zp_5035 zu_5035 296) = true := by decide +kernel
theorem zt_5035 {S : Nat × (Nat → Int32)} : zCtr mi_P S zTt zc_5035 := by
  have hc : ∀ c ∈ zs_5035, zCtr mi_P S zTt c := by
    intro c hc
    simp only [zs_5035, List.mem_cons, List.not_mem_nil, or_false] at hc
    rcases hc with rfl | rfl | rfl
    · exact zt_5005
    · exact zt_5028
    · exact zt_5034
  exact zCtr_of (Om := zTt) (ct := zc_5035) (ps := zp_5035) (fun _ _ _ _ => trivial) rfl hc za_5035 z0_5035 zk_5035
/-- L$Reader.readAnds(I)V -/
def zw_5036 : zW := .branch 16 (.branch 13 (.leaf (9, [1, 2, 5])) (.leaf (14, [1, 3]))) (.branch 22 (.leaf (17, [0])) (.leaf (23, [0, 1, 2, 3])))
def zp_5036 : List (zPo × List (Nat ⊕ (Nat × zL))) := [(([], [], [(8, [((1, []), zaI), ((2, []), zaI), ((5, []), .inr (.inr (.inr (.inl (0, 30)))))]), (13, [((1, []), zaI), ((3, []), .inr (.inr (.inr (.inl (0, 540)))))]), (16, []), (22, [((0, []), zaI), ((1, []), .inr (.inr (.inr (.inl (0, 1600))))), ((2, []), .inr (.inr (.inr (.inl (0, 1600))))), ((3, []), zaI)])], none), [])]
def zc_5036 : zCt := (40, 33, [.inr (.inl 8), .inl (4, [])], [], [], .branch 13 (.branch 8 (.leaf (8, 1, 1600, .inl ((-128), 127), [])) (.branch 9 (.leaf (9, 101, 8, .inr 3, [((0, []), .inr (.inl 9)), ((1, []), zaI), ((2, []), zaI), ((3, []), .inr (.inl 22)), ((5, []), .inr (.inr (.inr (.inl (0, 30)))))])) (.leaf (10, 102, 11, .inr 3, [((1, []), .inr (.inl 13))])))) (.branch 16 (.leaf (14, 104, 7, .inr 3, [((1, []), zaI), ((3, []), .inr (.inr (.inr (.inl (0, 540))))), ((5, []), .inr (.inl 16))])) (.branch 22 (.leaf (17, 0, 540, .inr 1, [])) (.leaf (23, 105, 6, .inr 3, [((0, []), zaI), ((1, []), .inr (.inr (.inr (.inl (0, 1600))))), ((2, []), .inr (.inr (.inr (.inl (0, 1600))))), ((3, []), zaI), ((4, []), .inr (.inl 7)), ((5, []), .inr (.inr (.inr (.inl (0, 1600)))))])))), zw_5036, [], zp_5036.map (fun p => p.1))
def zu_5036 : List zCu := [(([(40, 5, [(2, .inl (0, [(0, 1)])), (0, .inr (.inl 8)), (1, .inl (4, []))], [])], .branch 13 (.branch 8 (.leaf (8, 1, 1600, .inl ((-128), 127), [])) (.branch 9 (.leaf (9, 101, 8, .inr 3, [((0, []), .inr (.inl 9)), ((3, []), .inr (.inl 22)), ((1, []), zaI), ((2, []), zaI), ((5, []), .inr (.inr (.inr (.inl (0, 30)))))])) (.leaf (10, 102, 11, .inr 3, [((1, []), .inr (.inl 13))])))) (.branch 16 (.leaf (14, 104, 7, .inr 3, [((5, []), .inr (.inl 16)), ((1, []), zaI), ((3, []), .inr (.inr (.inr (.inl (0, 540)))))])) (.branch 22 (.leaf (17, 0, 540, .inr 1, [])) (.leaf (23, 105, 6, .inr 3, [((4, []), .inr (.inl 7)), ((5, []), .inr (.inr (.inr (.inl (0, 1600))))), ((0, []), zaI), ((1, []), .inr (.inr (.inr (.inl (0, 1600))))), ((2, []), .inr (.inr (.inr (.inl (0, 1600))))), ((3, []), zaI)])))), [(0, 30)], [], []), [.inl (0, 2)], (30, [(0, (-1))]))]
def zs_5036 : List zCt := [zc_5035, zc_5005]
theorem za_5036 : zwin zw_5036 zc_5036.2.2.2.2.2.1 = true := by decide +kernel
theorem z0_5036 : zst0 mi_P zw_5036 [] [] (fun d y as t en => zcal zw_5036 d y as t en zs_5036) zc_5036 zp_5036 zu_5036 292 = true := by decide +kernel
theorem zk_5036 : zu_5036.all (zck mi_P zc_5036.2.1 zw_5036 false [] [] (fun d y as t en => zcal zw_5036 d y as t en zs_5036) zc_5036.2.2.2.1.length zc_5036.2.2.2.1 zc_5036.2.2.2.2.2.1 zp_5036 zu_5036 292) = true := by decide +kernel
theorem zt_5036 {S : Nat × (Nat → Int32)} : zCtr mi_P S zTt zc_5036 := by
  have hc : ∀ c ∈ zs_5036, zCtr mi_P S zTt c := by
    intro c hc
    simp only [zs_5036, List.mem_cons, List.not_mem_nil, or_false] at hc
    rcases hc with rfl | rfl
    · exact zt_5035
    · exact zt_5005
  exact zCtr_of (Om := zTt) (ct := zc_5036) (ps := zp_5036) (fun _ _ _ _ => trivial) rfl hc za_5036 z0_5036 zk_5036
/-- L$Reader.readOrs(I)V -/
def zw_5037 : zW := .branch 16 (.branch 13 (.leaf (9, [1, 2, 5])) (.leaf (14, [1, 3]))) (.branch 22 (.leaf (17, [0])) (.leaf (23, [0, 1, 2, 3])))
def zp_5037 : List (zPo × List (Nat ⊕ (Nat × zL))) := [(([], [], [(8, [((1, []), zaI), ((2, []), zaI), ((5, []), .inr (.inr (.inr (.inl (0, 30)))))]), (13, [((1, []), zaI), ((3, []), .inr (.inr (.inr (.inl (0, 540)))))]), (16, []), (22, [((0, []), zaI), ((1, []), .inr (.inr (.inr (.inl (0, 1600))))), ((2, []), .inr (.inr (.inr (.inl (0, 1600))))), ((3, []), zaI)])], none), [])]
def zc_5037 : zCt := (39, 34, [.inr (.inl 8), .inl (4, [])], [], [], .branch 13 (.branch 8 (.leaf (8, 1, 1600, .inl ((-128), 127), [])) (.branch 9 (.leaf (9, 101, 8, .inr 3, [((0, []), .inr (.inl 9)), ((1, []), zaI), ((2, []), zaI), ((3, []), .inr (.inl 22)), ((5, []), .inr (.inr (.inr (.inl (0, 30)))))])) (.leaf (10, 102, 11, .inr 3, [((1, []), .inr (.inl 13))])))) (.branch 16 (.leaf (14, 104, 7, .inr 3, [((1, []), zaI), ((3, []), .inr (.inr (.inr (.inl (0, 540))))), ((5, []), .inr (.inl 16))])) (.branch 22 (.leaf (17, 0, 540, .inr 1, [])) (.leaf (23, 105, 6, .inr 3, [((0, []), zaI), ((1, []), .inr (.inr (.inr (.inl (0, 1600))))), ((2, []), .inr (.inr (.inr (.inl (0, 1600))))), ((3, []), zaI), ((4, []), .inr (.inl 7)), ((5, []), .inr (.inr (.inr (.inl (0, 1600)))))])))), zw_5037, [], zp_5037.map (fun p => p.1))
def zu_5037 : List zCu := [(([(39, 5, [(2, .inl (0, [(0, 1)])), (0, .inr (.inl 8)), (1, .inl (4, []))], [])], .branch 13 (.branch 8 (.leaf (8, 1, 1600, .inl ((-128), 127), [])) (.branch 9 (.leaf (9, 101, 8, .inr 3, [((0, []), .inr (.inl 9)), ((3, []), .inr (.inl 22)), ((1, []), zaI), ((2, []), zaI), ((5, []), .inr (.inr (.inr (.inl (0, 30)))))])) (.leaf (10, 102, 11, .inr 3, [((1, []), .inr (.inl 13))])))) (.branch 16 (.leaf (14, 104, 7, .inr 3, [((5, []), .inr (.inl 16)), ((1, []), zaI), ((3, []), .inr (.inr (.inr (.inl (0, 540)))))])) (.branch 22 (.leaf (17, 0, 540, .inr 1, [])) (.leaf (23, 105, 6, .inr 3, [((4, []), .inr (.inl 7)), ((5, []), .inr (.inr (.inr (.inl (0, 1600))))), ((0, []), zaI), ((1, []), .inr (.inr (.inr (.inl (0, 1600))))), ((2, []), .inr (.inr (.inr (.inl (0, 1600))))), ((3, []), zaI)])))), [(0, 30)], [], []), [.inl (0, 2)], (30, [(0, (-1))]))]
def zs_5037 : List zCt := [zc_5036, zc_5005]
theorem za_5037 : zwin zw_5037 zc_5037.2.2.2.2.2.1 = true := by decide +kernel
theorem z0_5037 : zst0 mi_P zw_5037 [] [] (fun d y as t en => zcal zw_5037 d y as t en zs_5037) zc_5037 zp_5037 zu_5037 292 = true := by decide +kernel
theorem zk_5037 : zu_5037.all (zck mi_P zc_5037.2.1 zw_5037 false [] [] (fun d y as t en => zcal zw_5037 d y as t en zs_5037) zc_5037.2.2.2.1.length zc_5037.2.2.2.1 zc_5037.2.2.2.2.2.1 zp_5037 zu_5037 292) = true := by decide +kernel
theorem zt_5037 {S : Nat × (Nat → Int32)} : zCtr mi_P S zTt zc_5037 := by
  have hc : ∀ c ∈ zs_5037, zCtr mi_P S zTt c := by
    intro c hc
    simp only [zs_5037, List.mem_cons, List.not_mem_nil, or_false] at hc
    rcases hc with rfl | rfl
    · exact zt_5036
    · exact zt_5005
  exact zCtr_of (Om := zTt) (ct := zc_5037) (ps := zp_5037) (fun _ _ _ _ => trivial) rfl hc za_5037 z0_5037 zk_5037
/-- L$Reader.readUnit(I)V -/
def zw_5038 : zW := .branch 16 (.branch 13 (.leaf (9, [1, 2, 5])) (.leaf (14, [1, 3]))) (.branch 22 (.leaf (17, [0])) (.leaf (23, [0, 1, 2, 3])))
def zp_5038 : List (zPo × List (Nat ⊕ (Nat × zL))) := [(([], [], [(8, [((1, []), zaI), ((2, []), zaI), ((5, []), .inr (.inr (.inr (.inl (0, 30)))))]), (13, [((1, []), zaI), ((3, []), .inr (.inr (.inr (.inl (0, 540)))))]), (16, []), (22, [((0, []), zaI), ((1, []), .inr (.inr (.inr (.inl (0, 1600))))), ((2, []), .inr (.inr (.inr (.inl (0, 1600))))), ((3, []), zaI)])], none), [])]
def zc_5038 : zCt := (45, 35, [.inr (.inl 8), .inl (3, [])], [], [], .branch 13 (.branch 8 (.leaf (8, 1, 1600, .inl ((-128), 127), [])) (.branch 9 (.leaf (9, 101, 8, .inr 3, [((0, []), .inr (.inl 9)), ((1, []), zaI), ((2, []), zaI), ((3, []), .inr (.inl 22)), ((5, []), .inr (.inr (.inr (.inl (0, 30)))))])) (.leaf (10, 102, 11, .inr 3, [((1, []), .inr (.inl 13))])))) (.branch 16 (.leaf (14, 104, 7, .inr 3, [((1, []), zaI), ((3, []), .inr (.inr (.inr (.inl (0, 540))))), ((5, []), .inr (.inl 16))])) (.branch 22 (.leaf (17, 0, 540, .inr 1, [])) (.leaf (23, 105, 6, .inr 3, [((0, []), zaI), ((1, []), .inr (.inr (.inr (.inl (0, 1600))))), ((2, []), .inr (.inr (.inr (.inl (0, 1600))))), ((3, []), zaI), ((4, []), .inr (.inl 7)), ((5, []), .inr (.inr (.inr (.inl (0, 1600)))))])))), zw_5038, [], zp_5038.map (fun p => p.1))
def zu_5038 : List zCu := []
def zs_5038 : List zCt := [zc_5007, zc_5005, zc_5037]
theorem za_5038 : zwin zw_5038 zc_5038.2.2.2.2.2.1 = true := by decide +kernel
theorem z0_5038 : zst0 mi_P zw_5038 [] [] (fun d y as t en => zcal zw_5038 d y as t en zs_5038) zc_5038 zp_5038 zu_5038 916 = true := by decide +kernel
theorem zk_5038 : zu_5038.all (zck mi_P zc_5038.2.1 zw_5038 false [] [] (fun d y as t en => zcal zw_5038 d y as t en zs_5038) zc_5038.2.2.2.1.length zc_5038.2.2.2.1 zc_5038.2.2.2.2.2.1 zp_5038 zu_5038 916) = true := by decide +kernel
theorem zt_5038 {S : Nat × (Nat → Int32)} : zCtr mi_P S zTt zc_5038 := by
  have hc : ∀ c ∈ zs_5038, zCtr mi_P S zTt c := by
    intro c hc
    simp only [zs_5038, List.mem_cons, List.not_mem_nil, or_false] at hc
    rcases hc with rfl | rfl | rfl
    · exact zt_5007
    · exact zt_5005
    · exact zt_5037
  exact zCtr_of (Om := zTt) (ct := zc_5038) (ps := zp_5038) (fun _ _ _ _ => trivial) rfl hc za_5038 z0_5038 zk_5038
/-- L$Reader.readTerm(I)V -/
def zw_5039 : zW := .branch 16 (.branch 13 (.leaf (9, [1, 2, 5])) (.leaf (14, [1, 3]))) (.branch 22 (.leaf (17, [0])) (.leaf (23, [0, 1, 2, 3])))
def zp_5039 : List (zPo × List (Nat ⊕ (Nat × zL))) := [(([], [], [(8, [((1, []), zaI), ((2, []), zaI), ((5, []), .inr (.inr (.inr (.inl (0, 30)))))]), (13, [((1, []), zaI), ((3, []), .inr (.inr (.inr (.inl (0, 540)))))]), (16, []), (22, [((0, []), zaI), ((1, []), .inr (.inr (.inr (.inl (0, 1600))))), ((2, []), .inr (.inr (.inr (.inl (0, 1600))))), ((3, []), zaI)])], none), [])]
def zc_5039 : zCt := (44, 36, [.inr (.inl 8), .inl (3, [])], [], [], .branch 13 (.branch 8 (.leaf (8, 1, 1600, .inl ((-128), 127), [])) (.branch 9 (.leaf (9, 101, 8, .inr 3, [((0, []), .inr (.inl 9)), ((1, []), zaI), ((2, []), zaI), ((3, []), .inr (.inl 22)), ((5, []), .inr (.inr (.inr (.inl (0, 30)))))])) (.leaf (10, 102, 11, .inr 3, [((1, []), .inr (.inl 13))])))) (.branch 16 (.leaf (14, 104, 7, .inr 3, [((1, []), zaI), ((3, []), .inr (.inr (.inr (.inl (0, 540))))), ((5, []), .inr (.inl 16))])) (.branch 22 (.leaf (17, 0, 540, .inr 1, [])) (.leaf (23, 105, 6, .inr 3, [((0, []), zaI), ((1, []), .inr (.inr (.inr (.inl (0, 1600))))), ((2, []), .inr (.inr (.inr (.inl (0, 1600))))), ((3, []), zaI), ((4, []), .inr (.inl 7)), ((5, []), .inr (.inr (.inr (.inl (0, 1600)))))])))), zw_5039, [], zp_5039.map (fun p => p.1))
def zu_5039 : List zCu := [(([(44, 5, [(2, .inl (0, [(0, 1)])), (0, .inr (.inl 8)), (1, .inl (3, []))], [])], .branch 13 (.branch 8 (.leaf (8, 1, 1600, .inl ((-128), 127), [])) (.branch 9 (.leaf (9, 101, 8, .inr 3, [((0, []), .inr (.inl 9)), ((3, []), .inr (.inl 22)), ((1, []), zaI), ((2, []), zaI), ((5, []), .inr (.inr (.inr (.inl (0, 30)))))])) (.leaf (10, 102, 11, .inr 3, [((1, []), .inr (.inl 13))])))) (.branch 16 (.leaf (14, 104, 7, .inr 3, [((5, []), .inr (.inl 16)), ((1, []), zaI), ((3, []), .inr (.inr (.inr (.inl (0, 540)))))])) (.branch 22 (.leaf (17, 0, 540, .inr 1, [])) (.leaf (23, 105, 6, .inr 3, [((4, []), .inr (.inl 7)), ((5, []), .inr (.inr (.inr (.inl (0, 1600))))), ((0, []), zaI), ((1, []), .inr (.inr (.inr (.inl (0, 1600))))), ((2, []), .inr (.inr (.inr (.inl (0, 1600))))), ((3, []), zaI)])))), [(0, 30)], [], []), [.inl (0, 2)], (30, [(0, (-1))]))]
def zs_5039 : List zCt := [zc_5038, zc_5005]
theorem za_5039 : zwin zw_5039 zc_5039.2.2.2.2.2.1 = true := by decide +kernel
theorem z0_5039 : zst0 mi_P zw_5039 [] [] (fun d y as t en => zcal zw_5039 d y as t en zs_5039) zc_5039 zp_5039 zu_5039 548 = true := by decide +kernel
theorem zk_5039 : zu_5039.all (zck mi_P zc_5039.2.1 zw_5039 false [] [] (fun d y as t en => zcal zw_5039 d y as t en zs_5039) zc_5039.2.2.2.1.length zc_5039.2.2.2.1 zc_5039.2.2.2.2.2.1 zp_5039 zu_5039 548) = true := by decide +kernel
theorem zt_5039 {S : Nat × (Nat → Int32)} : zCtr mi_P S zTt zc_5039 := by
  have hc : ∀ c ∈ zs_5039, zCtr mi_P S zTt c := by
    intro c hc
    simp only [zs_5039, List.mem_cons, List.not_mem_nil, or_false] at hc
    rcases hc with rfl | rfl
    · exact zt_5038
    · exact zt_5005
  exact zCtr_of (Om := zTt) (ct := zc_5039) (ps := zp_5039) (fun _ _ _ _ => trivial) rfl hc za_5039 z0_5039 zk_5039
/-- L$Reader.readSum(I)V -/
def zw_5040 : zW := .branch 16 (.branch 13 (.leaf (9, [1, 2, 5])) (.leaf (14, [1, 3]))) (.branch 22 (.leaf (17, [0])) (.leaf (23, [0, 1, 2, 3])))
def zp_5040 : List (zPo × List (Nat ⊕ (Nat × zL))) := [(([], [], [(8, [((1, []), zaI), ((2, []), zaI), ((5, []), .inr (.inr (.inr (.inl (0, 30)))))]), (13, [((1, []), zaI), ((3, []), .inr (.inr (.inr (.inl (0, 540)))))]), (16, []), (22, [((0, []), zaI), ((1, []), .inr (.inr (.inr (.inl (0, 1600))))), ((2, []), .inr (.inr (.inr (.inl (0, 1600))))), ((3, []), zaI)])], none), [])]
def zc_5040 : zCt := (43, 37, [.inr (.inl 8), .inl (3, [])], [], [], .branch 13 (.branch 8 (.leaf (8, 1, 1600, .inl ((-128), 127), [])) (.branch 9 (.leaf (9, 101, 8, .inr 3, [((0, []), .inr (.inl 9)), ((1, []), zaI), ((2, []), zaI), ((3, []), .inr (.inl 22)), ((5, []), .inr (.inr (.inr (.inl (0, 30)))))])) (.leaf (10, 102, 11, .inr 3, [((1, []), .inr (.inl 13))])))) (.branch 16 (.leaf (14, 104, 7, .inr 3, [((1, []), zaI), ((3, []), .inr (.inr (.inr (.inl (0, 540))))), ((5, []), .inr (.inl 16))])) (.branch 22 (.leaf (17, 0, 540, .inr 1, [])) (.leaf (23, 105, 6, .inr 3, [((0, []), zaI), ((1, []), .inr (.inr (.inr (.inl (0, 1600))))), ((2, []), .inr (.inr (.inr (.inl (0, 1600))))), ((3, []), zaI), ((4, []), .inr (.inl 7)), ((5, []), .inr (.inr (.inr (.inl (0, 1600)))))])))), zw_5040, [], zp_5040.map (fun p => p.1))
def zu_5040 : List zCu := [(([(43, 5, [(2, .inl (0, [(0, 1)])), (0, .inr (.inl 8)), (1, .inl (3, []))], [])], .branch 13 (.branch 8 (.leaf (8, 1, 1600, .inl ((-128), 127), [])) (.branch 9 (.leaf (9, 101, 8, .inr 3, [((0, []), .inr (.inl 9)), ((3, []), .inr (.inl 22)), ((1, []), zaI), ((2, []), zaI), ((5, []), .inr (.inr (.inr (.inl (0, 30)))))])) (.leaf (10, 102, 11, .inr 3, [((1, []), .inr (.inl 13))])))) (.branch 16 (.leaf (14, 104, 7, .inr 3, [((5, []), .inr (.inl 16)), ((1, []), zaI), ((3, []), .inr (.inr (.inr (.inl (0, 540)))))])) (.branch 22 (.leaf (17, 0, 540, .inr 1, [])) (.leaf (23, 105, 6, .inr 3, [((4, []), .inr (.inl 7)), ((5, []), .inr (.inr (.inr (.inl (0, 1600))))), ((0, []), zaI), ((1, []), .inr (.inr (.inr (.inl (0, 1600))))), ((2, []), .inr (.inr (.inr (.inl (0, 1600))))), ((3, []), zaI)])))), [(0, 30)], [], []), [.inl (0, 2)], (30, [(0, (-1))]))]
def zs_5040 : List zCt := [zc_5039, zc_5005]
theorem za_5040 : zwin zw_5040 zc_5040.2.2.2.2.2.1 = true := by decide +kernel
theorem z0_5040 : zst0 mi_P zw_5040 [] [] (fun d y as t en => zcal zw_5040 d y as t en zs_5040) zc_5040 zp_5040 zu_5040 408 = true := by decide +kernel
theorem zk_5040 : zu_5040.all (zck mi_P zc_5040.2.1 zw_5040 false [] [] (fun d y as t en => zcal zw_5040 d y as t en zs_5040) zc_5040.2.2.2.1.length zc_5040.2.2.2.1 zc_5040.2.2.2.2.2.1 zp_5040 zu_5040 408) = true := by decide +kernel
theorem zt_5040 {S : Nat × (Nat → Int32)} : zCtr mi_P S zTt zc_5040 := by
  have hc : ∀ c ∈ zs_5040, zCtr mi_P S zTt c := by
    intro c hc
    simp only [zs_5040, List.mem_cons, List.not_mem_nil, or_false] at hc
    rcases hc with rfl | rfl
    · exact zt_5039
    · exact zt_5005
  exact zCtr_of (Om := zTt) (ct := zc_5040) (ps := zp_5040) (fun _ _ _ _ => trivial) rfl hc za_5040 z0_5040 zk_5040
/-- L$Reader.readRelation(I)V -/
def zw_5041 : zW := .branch 16 (.branch 13 (.leaf (9, [1, 2, 5])) (.leaf (14, [1, 3]))) (.branch 22 (.leaf (17, [0])) (.leaf (23, [0, 1, 2, 3])))
def zp_5041 : List (zPo × List (Nat ⊕ (Nat × zL))) := [(([], [], [(8, [((1, []), zaI), ((2, []), zaI), ((5, []), .inr (.inr (.inr (.inl (0, 30)))))]), (13, [((1, []), zaI), ((3, []), .inr (.inr (.inr (.inl (0, 540)))))]), (16, []), (22, [((0, []), zaI), ((1, []), .inr (.inr (.inr (.inl (0, 1600))))), ((2, []), .inr (.inr (.inr (.inl (0, 1600))))), ((3, []), zaI)])], none), [])]
def zc_5041 : zCt := (42, 38, [.inr (.inl 8), .inl (3, [])], [], [], .branch 13 (.branch 8 (.leaf (8, 1, 1600, .inl ((-128), 127), [])) (.branch 9 (.leaf (9, 101, 8, .inr 3, [((0, []), .inr (.inl 9)), ((1, []), zaI), ((2, []), zaI), ((3, []), .inr (.inl 22)), ((5, []), .inr (.inr (.inr (.inl (0, 30)))))])) (.leaf (10, 102, 11, .inr 3, [((1, []), .inr (.inl 13))])))) (.branch 16 (.leaf (14, 104, 7, .inr 3, [((1, []), zaI), ((3, []), .inr (.inr (.inr (.inl (0, 540))))), ((5, []), .inr (.inl 16))])) (.branch 22 (.leaf (17, 0, 540, .inr 1, [])) (.leaf (23, 105, 6, .inr 3, [((0, []), zaI), ((1, []), .inr (.inr (.inr (.inl (0, 1600))))), ((2, []), .inr (.inr (.inr (.inl (0, 1600))))), ((3, []), zaI), ((4, []), .inr (.inl 7)), ((5, []), .inr (.inr (.inr (.inl (0, 1600)))))])))), zw_5041, [], zp_5041.map (fun p => p.1))
def zu_5041 : List zCu := []
def zs_5041 : List zCt := [zc_5040, zc_5005]
theorem za_5041 : zwin zw_5041 zc_5041.2.2.2.2.2.1 = true := by decide +kernel
theorem z0_5041 : zst0 mi_P zw_5041 [] [] (fun d y as t en => zcal zw_5041 d y as t en zs_5041) zc_5041 zp_5041 zu_5041 470 = true := by decide +kernel
theorem zk_5041 : zu_5041.all (zck mi_P zc_5041.2.1 zw_5041 false [] [] (fun d y as t en => zcal zw_5041 d y as t en zs_5041) zc_5041.2.2.2.1.length zc_5041.2.2.2.1 zc_5041.2.2.2.2.2.1 zp_5041 zu_5041 470) = true := by decide +kernel
theorem zt_5041 {S : Nat × (Nat → Int32)} : zCtr mi_P S zTt zc_5041 := by
  have hc : ∀ c ∈ zs_5041, zCtr mi_P S zTt c := by
    intro c hc
    simp only [zs_5041, List.mem_cons, List.not_mem_nil, or_false] at hc
    rcases hc with rfl | rfl
    · exact zt_5040
    · exact zt_5005
  exact zCtr_of (Om := zTt) (ct := zc_5041) (ps := zp_5041) (fun _ _ _ _ => trivial) rfl hc za_5041 z0_5041 zk_5041
/-- L$Reader.readOne(I)V -/
def zw_5042 : zW := .branch 16 (.branch 13 (.leaf (9, [1, 2, 5])) (.leaf (14, [1, 3]))) (.branch 22 (.leaf (17, [0])) (.leaf (23, [0, 1, 2, 3])))
def zp_5042 : List (zPo × List (Nat ⊕ (Nat × zL))) := [(([], [], [(8, [((1, []), zaI), ((2, []), zaI), ((5, []), .inr (.inr (.inr (.inl (0, 30)))))]), (13, [((1, []), zaI), ((3, []), .inr (.inr (.inr (.inl (0, 540)))))]), (16, []), (22, [((0, []), zaI), ((1, []), .inr (.inr (.inr (.inl (0, 1600))))), ((2, []), .inr (.inr (.inr (.inl (0, 1600))))), ((3, []), zaI)])], none), [])]
def zc_5042 : zCt := (41, 39, [.inr (.inl 8), .inl (3, [])], [], [], .branch 13 (.branch 8 (.leaf (8, 1, 1600, .inl ((-128), 127), [])) (.branch 9 (.leaf (9, 101, 8, .inr 3, [((0, []), .inr (.inl 9)), ((1, []), zaI), ((2, []), zaI), ((3, []), .inr (.inl 22)), ((5, []), .inr (.inr (.inr (.inl (0, 30)))))])) (.leaf (10, 102, 11, .inr 3, [((1, []), .inr (.inl 13))])))) (.branch 16 (.leaf (14, 104, 7, .inr 3, [((1, []), zaI), ((3, []), .inr (.inr (.inr (.inl (0, 540))))), ((5, []), .inr (.inl 16))])) (.branch 22 (.leaf (17, 0, 540, .inr 1, [])) (.leaf (23, 105, 6, .inr 3, [((0, []), zaI), ((1, []), .inr (.inr (.inr (.inl (0, 1600))))), ((2, []), .inr (.inr (.inr (.inl (0, 1600))))), ((3, []), zaI), ((4, []), .inr (.inl 7)), ((5, []), .inr (.inr (.inr (.inl (0, 1600)))))])))), zw_5042, [], zp_5042.map (fun p => p.1))
def zu_5042 : List zCu := []
def zs_5042 : List zCt := [zc_5005, zc_5035, zc_5041]
theorem za_5042 : zwin zw_5042 zc_5042.2.2.2.2.2.1 = true := by decide +kernel
theorem z0_5042 : zst0 mi_P zw_5042 [] [] (fun d y as t en => zcal zw_5042 d y as t en zs_5042) zc_5042 zp_5042 zu_5042 296 = true := by decide +kernel
theorem zk_5042 : zu_5042.all (zck mi_P zc_5042.2.1 zw_5042 false [] [] (fun d y as t en => zcal zw_5042 d y as t en zs_5042) zc_5042.2.2.2.1.length zc_5042.2.2.2.1 zc_5042.2.2.2.2.2.1 zp_5042 zu_5042 296) = true := by decide +kernel
theorem zt_5042 {S : Nat × (Nat → Int32)} : zCtr mi_P S zTt zc_5042 := by
  have hc : ∀ c ∈ zs_5042, zCtr mi_P S zTt c := by
    intro c hc
    simp only [zs_5042, List.mem_cons, List.not_mem_nil, or_false] at hc
    rcases hc with rfl | rfl | rfl
    · exact zt_5005
    · exact zt_5035
    · exact zt_5041
  exact zCtr_of (Om := zTt) (ct := zc_5042) (ps := zp_5042) (fun _ _ _ _ => trivial) rfl hc za_5042 z0_5042 zk_5042
/-- L$Reader.readAnds(I)V -/
def zw_5043 : zW := .branch 16 (.branch 13 (.leaf (9, [1, 2, 5])) (.leaf (14, [1, 3]))) (.branch 22 (.leaf (17, [0])) (.leaf (23, [0, 1, 2, 3])))
def zp_5043 : List (zPo × List (Nat ⊕ (Nat × zL))) := [(([], [], [(8, [((1, []), zaI), ((2, []), zaI), ((5, []), .inr (.inr (.inr (.inl (0, 30)))))]), (13, [((1, []), zaI), ((3, []), .inr (.inr (.inr (.inl (0, 540)))))]), (16, []), (22, [((0, []), zaI), ((1, []), .inr (.inr (.inr (.inl (0, 1600))))), ((2, []), .inr (.inr (.inr (.inl (0, 1600))))), ((3, []), zaI)])], none), [])]
def zc_5043 : zCt := (40, 40, [.inr (.inl 8), .inl (3, [])], [], [], .branch 13 (.branch 8 (.leaf (8, 1, 1600, .inl ((-128), 127), [])) (.branch 9 (.leaf (9, 101, 8, .inr 3, [((0, []), .inr (.inl 9)), ((1, []), zaI), ((2, []), zaI), ((3, []), .inr (.inl 22)), ((5, []), .inr (.inr (.inr (.inl (0, 30)))))])) (.leaf (10, 102, 11, .inr 3, [((1, []), .inr (.inl 13))])))) (.branch 16 (.leaf (14, 104, 7, .inr 3, [((1, []), zaI), ((3, []), .inr (.inr (.inr (.inl (0, 540))))), ((5, []), .inr (.inl 16))])) (.branch 22 (.leaf (17, 0, 540, .inr 1, [])) (.leaf (23, 105, 6, .inr 3, [((0, []), zaI), ((1, []), .inr (.inr (.inr (.inl (0, 1600))))), ((2, []), .inr (.inr (.inr (.inl (0, 1600))))), ((3, []), zaI), ((4, []), .inr (.inl 7)), ((5, []), .inr (.inr (.inr (.inl (0, 1600)))))])))), zw_5043, [], zp_5043.map (fun p => p.1))
def zu_5043 : List zCu := [(([(40, 5, [(2, .inl (0, [(0, 1)])), (0, .inr (.inl 8)), (1, .inl (3, []))], [])], .branch 13 (.branch 8 (.leaf (8, 1, 1600, .inl ((-128), 127), [])) (.branch 9 (.leaf (9, 101, 8, .inr 3, [((0, []), .inr (.inl 9)), ((3, []), .inr (.inl 22)), ((1, []), zaI), ((2, []), zaI), ((5, []), .inr (.inr (.inr (.inl (0, 30)))))])) (.leaf (10, 102, 11, .inr 3, [((1, []), .inr (.inl 13))])))) (.branch 16 (.leaf (14, 104, 7, .inr 3, [((5, []), .inr (.inl 16)), ((1, []), zaI), ((3, []), .inr (.inr (.inr (.inl (0, 540)))))])) (.branch 22 (.leaf (17, 0, 540, .inr 1, [])) (.leaf (23, 105, 6, .inr 3, [((4, []), .inr (.inl 7)), ((5, []), .inr (.inr (.inr (.inl (0, 1600))))), ((0, []), zaI), ((1, []), .inr (.inr (.inr (.inl (0, 1600))))), ((2, []), .inr (.inr (.inr (.inl (0, 1600))))), ((3, []), zaI)])))), [(0, 30)], [], []), [.inl (0, 2)], (30, [(0, (-1))]))]
def zs_5043 : List zCt := [zc_5042, zc_5005]
theorem za_5043 : zwin zw_5043 zc_5043.2.2.2.2.2.1 = true := by decide +kernel
theorem z0_5043 : zst0 mi_P zw_5043 [] [] (fun d y as t en => zcal zw_5043 d y as t en zs_5043) zc_5043 zp_5043 zu_5043 292 = true := by decide +kernel
theorem zk_5043 : zu_5043.all (zck mi_P zc_5043.2.1 zw_5043 false [] [] (fun d y as t en => zcal zw_5043 d y as t en zs_5043) zc_5043.2.2.2.1.length zc_5043.2.2.2.1 zc_5043.2.2.2.2.2.1 zp_5043 zu_5043 292) = true := by decide +kernel
theorem zt_5043 {S : Nat × (Nat → Int32)} : zCtr mi_P S zTt zc_5043 := by
  have hc : ∀ c ∈ zs_5043, zCtr mi_P S zTt c := by
    intro c hc
    simp only [zs_5043, List.mem_cons, List.not_mem_nil, or_false] at hc
    rcases hc with rfl | rfl
    · exact zt_5042
    · exact zt_5005
  exact zCtr_of (Om := zTt) (ct := zc_5043) (ps := zp_5043) (fun _ _ _ _ => trivial) rfl hc za_5043 z0_5043 zk_5043
/-- L$Reader.readOrs(I)V -/
def zw_5044 : zW := .branch 16 (.branch 13 (.leaf (9, [1, 2, 5])) (.leaf (14, [1, 3]))) (.branch 22 (.leaf (17, [0])) (.leaf (23, [0, 1, 2, 3])))
def zp_5044 : List (zPo × List (Nat ⊕ (Nat × zL))) := [(([], [], [(8, [((1, []), zaI), ((2, []), zaI), ((5, []), .inr (.inr (.inr (.inl (0, 30)))))]), (13, [((1, []), zaI), ((3, []), .inr (.inr (.inr (.inl (0, 540)))))]), (16, []), (22, [((0, []), zaI), ((1, []), .inr (.inr (.inr (.inl (0, 1600))))), ((2, []), .inr (.inr (.inr (.inl (0, 1600))))), ((3, []), zaI)])], none), [])]
def zc_5044 : zCt := (39, 41, [.inr (.inl 8), .inl (3, [])], [], [], .branch 13 (.branch 8 (.leaf (8, 1, 1600, .inl ((-128), 127), [])) (.branch 9 (.leaf (9, 101, 8, .inr 3, [((0, []), .inr (.inl 9)), ((1, []), zaI), ((2, []), zaI), ((3, []), .inr (.inl 22)), ((5, []), .inr (.inr (.inr (.inl (0, 30)))))])) (.leaf (10, 102, 11, .inr 3, [((1, []), .inr (.inl 13))])))) (.branch 16 (.leaf (14, 104, 7, .inr 3, [((1, []), zaI), ((3, []), .inr (.inr (.inr (.inl (0, 540))))), ((5, []), .inr (.inl 16))])) (.branch 22 (.leaf (17, 0, 540, .inr 1, [])) (.leaf (23, 105, 6, .inr 3, [((0, []), zaI), ((1, []), .inr (.inr (.inr (.inl (0, 1600))))), ((2, []), .inr (.inr (.inr (.inl (0, 1600))))), ((3, []), zaI), ((4, []), .inr (.inl 7)), ((5, []), .inr (.inr (.inr (.inl (0, 1600)))))])))), zw_5044, [], zp_5044.map (fun p => p.1))
def zu_5044 : List zCu := [(([(39, 5, [(2, .inl (0, [(0, 1)])), (0, .inr (.inl 8)), (1, .inl (3, []))], [])], .branch 13 (.branch 8 (.leaf (8, 1, 1600, .inl ((-128), 127), [])) (.branch 9 (.leaf (9, 101, 8, .inr 3, [((0, []), .inr (.inl 9)), ((3, []), .inr (.inl 22)), ((1, []), zaI), ((2, []), zaI), ((5, []), .inr (.inr (.inr (.inl (0, 30)))))])) (.leaf (10, 102, 11, .inr 3, [((1, []), .inr (.inl 13))])))) (.branch 16 (.leaf (14, 104, 7, .inr 3, [((5, []), .inr (.inl 16)), ((1, []), zaI), ((3, []), .inr (.inr (.inr (.inl (0, 540)))))])) (.branch 22 (.leaf (17, 0, 540, .inr 1, [])) (.leaf (23, 105, 6, .inr 3, [((4, []), .inr (.inl 7)), ((5, []), .inr (.inr (.inr (.inl (0, 1600))))), ((0, []), zaI), ((1, []), .inr (.inr (.inr (.inl (0, 1600))))), ((2, []), .inr (.inr (.inr (.inl (0, 1600))))), ((3, []), zaI)])))), [(0, 30)], [], []), [.inl (0, 2)], (30, [(0, (-1))]))]
def zs_5044 : List zCt := [zc_5043, zc_5005]
theorem za_5044 : zwin zw_5044 zc_5044.2.2.2.2.2.1 = true := by decide +kernel
theorem z0_5044 : zst0 mi_P zw_5044 [] [] (fun d y as t en => zcal zw_5044 d y as t en zs_5044) zc_5044 zp_5044 zu_5044 292 = true := by decide +kernel
theorem zk_5044 : zu_5044.all (zck mi_P zc_5044.2.1 zw_5044 false [] [] (fun d y as t en => zcal zw_5044 d y as t en zs_5044) zc_5044.2.2.2.1.length zc_5044.2.2.2.1 zc_5044.2.2.2.2.2.1 zp_5044 zu_5044 292) = true := by decide +kernel
theorem zt_5044 {S : Nat × (Nat → Int32)} : zCtr mi_P S zTt zc_5044 := by
  have hc : ∀ c ∈ zs_5044, zCtr mi_P S zTt c := by
    intro c hc
    simp only [zs_5044, List.mem_cons, List.not_mem_nil, or_false] at hc
    rcases hc with rfl | rfl
    · exact zt_5043
    · exact zt_5005
  exact zCtr_of (Om := zTt) (ct := zc_5044) (ps := zp_5044) (fun _ _ _ _ => trivial) rfl hc za_5044 z0_5044 zk_5044
