/-- L$Reader.readUnit(I)V -/
def zw_5045 : zW := .branch 16 (.branch 13 (.leaf (9, [1, 2, 5])) (.leaf (14, [1, 3]))) (.branch 22 (.leaf (17, [0])) (.leaf (23, [0, 1, 2, 3])))
def zp_5045 : List (zPo × List (Nat ⊕ (Nat × zL))) := [(([], [], [(8, [((1, []), zaI), ((2, []), zaI), ((5, []), .inr (.inr (.inr (.inl (0, 30)))))]), (13, [((1, []), zaI), ((3, []), .inr (.inr (.inr (.inl (0, 540)))))]), (16, []), (22, [((0, []), zaI), ((1, []), .inr (.inr (.inr (.inl (0, 1600))))), ((2, []), .inr (.inr (.inr (.inl (0, 1600))))), ((3, []), zaI)])], none), [])]
def zc_5045 : zCt := (45, 42, [.inr (.inl 8), .inl (2, [])], [], [], .branch 13 (.branch 8 (.leaf (8, 1, 1600, .inl ((-128), 127), [])) (.branch 9 (.leaf (9, 101, 8, .inr 3, [((0, []), .inr (.inl 9)), ((1, []), zaI), ((2, []), zaI), ((3, []), .inr (.inl 22)), ((5, []), .inr (.inr (.inr (.inl (0, 30)))))])) (.leaf (10, 102, 11, .inr 3, [((1, []), .inr (.inl 13))])))) (.branch 16 (.leaf (14, 104, 7, .inr 3, [((1, []), zaI), ((3, []), .inr (.inr (.inr (.inl (0, 540))))), ((5, []), .inr (.inl 16))])) (.branch 22 (.leaf (17, 0, 540, .inr 1, [])) (.leaf (23, 105, 6, .inr 3, [((0, []), zaI), ((1, []), .inr (.inr (.inr (.inl (0, 1600))))), ((2, []), .inr (.inr (.inr (.inl (0, 1600))))), ((3, []), zaI), ((4, []), .inr (.inl 7)), ((5, []), .inr (.inr (.inr (.inl (0, 1600)))))])))), zw_5045, [], zp_5045.map (fun p => p.1))
def zu_5045 : List zCu := []
def zs_5045 : List zCt := [zc_5007, zc_5005, zc_5044]
theorem za_5045 : zwin zw_5045 zc_5045.2.2.2.2.2.1 = true := by decide +kernel
theorem z0_5045 : zst0 mi_P zw_5045 [] [] (fun d y as t en => zcal zw_5045 d y as t en zs_5045) zc_5045 zp_5045 zu_5045 916 = true := by decide +kernel
theorem zk_5045 : zu_5045.all (zck mi_P zc_5045.2.1 zw_5045 false [] [] (fun d y as t en => zcal zw_5045 d y as t en zs_5045) zc_5045.2.2.2.1.length zc_5045.2.2.2.1 zc_5045.2.2.2.2.2.1 zp_5045 zu_5045 916) = true := by decide +kernel
theorem zt_5045 {S : Nat × (Nat → Int32)} : zCtr mi_P S zTt zc_5045 := by
  have hc : ∀ c ∈ zs_5045, zCtr mi_P S zTt c := by
    intro c hc
    simp only [zs_5045, List.mem_cons, List.not_mem_nil, or_false] at hc
    rcases hc with rfl | rfl | rfl
    · exact zt_5007
    · exact zt_5005
    · exact zt_5044
  exact zCtr_of (Om := zTt) (ct := zc_5045) (ps := zp_5045) (fun _ _ _ _ => trivial) rfl hc za_5045 z0_5045 zk_5045
/-- L$Reader.readTerm(I)V -/
def zw_5046 : zW := .branch 16 (.branch 13 (.leaf (9, [1, 2, 5])) (.leaf (14, [1, 3]))) (.branch 22 (.leaf (17, [0])) (.leaf (23, [0, 1, 2, 3])))
def zp_5046 : List (zPo × List (Nat ⊕ (Nat × zL))) := [(([], [], [(8, [((1, []), zaI), ((2, []), zaI), ((5, []), .inr (.inr (.inr (.inl (0, 30)))))]), (13, [((1, []), zaI), ((3, []), .inr (.inr (.inr (.inl (0, 540)))))]), (16, []), (22, [((0, []), zaI), ((1, []), .inr (.inr (.inr (.inl (0, 1600))))), ((2, []), .inr (.inr (.inr (.inl (0, 1600))))), ((3, []), zaI)])], none), [])]
def zc_5046 : zCt := (44, 43, [.inr (.inl 8), .inl (2, [])], [], [], .branch 13 (.branch 8 (.leaf (8, 1, 1600, .inl ((-128), 127), [])) (.branch 9 (.leaf (9, 101, 8, .inr 3, [((0, []), .inr (.inl 9)), ((1, []), zaI), ((2, []), zaI), ((3, []), .inr (.inl 22)), ((5, []), .inr (.inr (.inr (.inl (0, 30)))))])) (.leaf (10, 102, 11, .inr 3, [((1, []), .inr (.inl 13))])))) (.branch 16 (.leaf (14, 104, 7, .inr 3, [((1, []), zaI), ((3, []), .inr (.inr (.inr (.inl (0, 540))))), ((5, []), .inr (.inl 16))])) (.branch 22 (.leaf (17, 0, 540, .inr 1, [])) (.leaf (23, 105, 6, .inr 3, [((0, []), zaI), ((1, []), .inr (.inr (.inr (.inl (0, 1600))))), ((2, []), .inr (.inr (.inr (.inl (0, 1600))))), ((3, []), zaI), ((4, []), .inr (.inl 7)), ((5, []), .inr (.inr (.inr (.inl (0, 1600)))))])))), zw_5046, [], zp_5046.map (fun p => p.1))
def zu_5046 : List zCu := [(([(44, 5, [(2, .inl (0, [(0, 1)])), (0, .inr (.inl 8)), (1, .inl (2, []))], [])], .branch 13 (.branch 8 (.leaf (8, 1, 1600, .inl ((-128), 127), [])) (.branch 9 (.leaf (9, 101, 8, .inr 3, [((0, []), .inr (.inl 9)), ((3, []), .inr (.inl 22)), ((1, []), zaI), ((2, []), zaI), ((5, []), .inr (.inr (.inr (.inl (0, 30)))))])) (.leaf (10, 102, 11, .inr 3, [((1, []), .inr (.inl 13))])))) (.branch 16 (.leaf (14, 104, 7, .inr 3, [((5, []), .inr (.inl 16)), ((1, []), zaI), ((3, []), .inr (.inr (.inr (.inl (0, 540)))))])) (.branch 22 (.leaf (17, 0, 540, .inr 1, [])) (.leaf (23, 105, 6, .inr 3, [((4, []), .inr (.inl 7)), ((5, []), .inr (.inr (.inr (.inl (0, 1600))))), ((0, []), zaI), ((1, []), .inr (.inr (.inr (.inl (0, 1600))))), ((2, []), .inr (.inr (.inr (.inl (0, 1600))))), ((3, []), zaI)])))), [(0, 30)], [], []), [.inl (0, 2)], (30, [(0, (-1))]))]
def zs_5046 : List zCt := [zc_5045, zc_5005]
theorem za_5046 : zwin zw_5046 zc_5046.2.2.2.2.2.1 = true := by decide +kernel
theorem z0_5046 : zst0 mi_P zw_5046 [] [] (fun d y as t en => zcal zw_5046 d y as t en zs_5046) zc_5046 zp_5046 zu_5046 548 = true := by decide +kernel
theorem zk_5046 : zu_5046.all (zck mi_P zc_5046.2.1 zw_5046 false [] [] (fun d y as t en => zcal zw_5046 d y as t en zs_5046) zc_5046.2.2.2.1.length zc_5046.2.2.2.1 zc_5046.2.2.2.2.2.1 zp_5046 zu_5046 548) = true := by decide +kernel
theorem zt_5046 {S : Nat × (Nat → Int32)} : zCtr mi_P S zTt zc_5046 := by
  have hc : ∀ c ∈ zs_5046, zCtr mi_P S zTt c := by
    intro c hc
    simp only [zs_5046, List.mem_cons, List.not_mem_nil, or_false] at hc
    rcases hc with rfl | rfl
    · exact zt_5045
    · exact zt_5005
  exact zCtr_of (Om := zTt) (ct := zc_5046) (ps := zp_5046) (fun _ _ _ _ => trivial) rfl hc za_5046 z0_5046 zk_5046
/-- L$Reader.readSum(I)V -/
def zw_5047 : zW := .branch 16 (.branch 13 (.leaf (9, [1, 2, 5])) (.leaf (14, [1, 3]))) (.branch 22 (.leaf (17, [0])) (.leaf (23, [0, 1, 2, 3])))
def zp_5047 : List (zPo × List (Nat ⊕ (Nat × zL))) := [(([], [], [(8, [((1, []), zaI), ((2, []), zaI), ((5, []), .inr (.inr (.inr (.inl (0, 30)))))]), (13, [((1, []), zaI), ((3, []), .inr (.inr (.inr (.inl (0, 540)))))]), (16, []), (22, [((0, []), zaI), ((1, []), .inr (.inr (.inr (.inl (0, 1600))))), ((2, []), .inr (.inr (.inr (.inl (0, 1600))))), ((3, []), zaI)])], none), [])]
def zc_5047 : zCt := (43, 44, [.inr (.inl 8), .inl (2, [])], [], [], .branch 13 (.branch 8 (.leaf (8, 1, 1600, .inl ((-128), 127), [])) (.branch 9 (.leaf (9, 101, 8, .inr 3, [((0, []), .inr (.inl 9)), ((1, []), zaI), ((2, []), zaI), ((3, []), .inr (.inl 22)), ((5, []), .inr (.inr (.inr (.inl (0, 30)))))])) (.leaf (10, 102, 11, .inr 3, [((1, []), .inr (.inl 13))])))) (.branch 16 (.leaf (14, 104, 7, .inr 3, [((1, []), zaI), ((3, []), .inr (.inr (.inr (.inl (0, 540))))), ((5, []), .inr (.inl 16))])) (.branch 22 (.leaf (17, 0, 540, .inr 1, [])) (.leaf (23, 105, 6, .inr 3, [((0, []), zaI), ((1, []), .inr (.inr (.inr (.inl (0, 1600))))), ((2, []), .inr (.inr (.inr (.inl (0, 1600))))), ((3, []), zaI), ((4, []), .inr (.inl 7)), ((5, []), .inr (.inr (.inr (.inl (0, 1600)))))])))), zw_5047, [], zp_5047.map (fun p => p.1))
def zu_5047 : List zCu := [(([(43, 5, [(2, .inl (0, [(0, 1)])), (0, .inr (.inl 8)), (1, .inl (2, []))], [])], .branch 13 (.branch 8 (.leaf (8, 1, 1600, .inl ((-128), 127), [])) (.branch 9 (.leaf (9, 101, 8, .inr 3, [((0, []), .inr (.inl 9)), ((3, []), .inr (.inl 22)), ((1, []), zaI), ((2, []), zaI), ((5, []), .inr (.inr (.inr (.inl (0, 30)))))])) (.leaf (10, 102, 11, .inr 3, [((1, []), .inr (.inl 13))])))) (.branch 16 (.leaf (14, 104, 7, .inr 3, [((5, []), .inr (.inl 16)), ((1, []), zaI), ((3, []), .inr (.inr (.inr (.inl (0, 540)))))])) (.branch 22 (.leaf (17, 0, 540, .inr 1, [])) (.leaf (23, 105, 6, .inr 3, [((4, []), .inr (.inl 7)), ((5, []), .inr (.inr (.inr (.inl (0, 1600))))), ((0, []), zaI), ((1, []), .inr (.inr (.inr (.inl (0, 1600))))), ((2, []), .inr (.inr (.inr (.inl (0, 1600))))), ((3, []), zaI)])))), [(0, 30)], [], []), [.inl (0, 2)], (30, [(0, (-1))]))]
def zs_5047 : List zCt := [zc_5046, zc_5005]
theorem za_5047 : zwin zw_5047 zc_5047.2.2.2.2.2.1 = true := by decide +kernel
theorem z0_5047 : zst0 mi_P zw_5047 [] [] (fun d y as t en => zcal zw_5047 d y as t en zs_5047) zc_5047 zp_5047 zu_5047 408 = true := by decide +kernel
theorem zk_5047 : zu_5047.all (zck mi_P zc_5047.2.1 zw_5047 false [] [] (fun d y as t en => zcal zw_5047 d y as t en zs_5047) zc_5047.2.2.2.1.length zc_5047.2.2.2.1 zc_5047.2.2.2.2.2.1 zp_5047 zu_5047 408) = true := by decide +kernel
theorem zt_5047 {S : Nat × (Nat → Int32)} : zCtr mi_P S zTt zc_5047 := by
  have hc : ∀ c ∈ zs_5047, zCtr mi_P S zTt c := by
    intro c hc
    simp only [zs_5047, List.mem_cons, List.not_mem_nil, or_false] at hc
    rcases hc with rfl | rfl
    · exact zt_5046
    · exact zt_5005
  exact zCtr_of (Om := zTt) (ct := zc_5047) (ps := zp_5047) (fun _ _ _ _ => trivial) rfl hc za_5047 z0_5047 zk_5047
/-- L$Reader.readRelation(I)V -/
def zw_5048 : zW := .branch 16 (.branch 13 (.leaf (9, [1, 2, 5])) (.leaf (14, [1, 3]))) (.branch 22 (.leaf (17, [0])) (.leaf (23, [0, 1, 2, 3])))
def zp_5048 : List (zPo × List (Nat ⊕ (Nat × zL))) := [(([], [], [(8, [((1, []), zaI), ((2, []), zaI), ((5, []), .inr (.inr (.inr (.inl (0, 30)))))]), (13, [((1, []), zaI), ((3, []), .inr (.inr (.inr (.inl (0, 540)))))]), (16, []), (22, [((0, []), zaI), ((1, []), .inr (.inr (.inr (.inl (0, 1600))))), ((2, []), .inr (.inr (.inr (.inl (0, 1600))))), ((3, []), zaI)])], none), [])]
def zc_5048 : zCt := (42, 45, [.inr (.inl 8), .inl (2, [])], [], [], .branch 13 (.branch 8 (.leaf (8, 1, 1600, .inl ((-128), 127), [])) (.branch 9 (.leaf (9, 101, 8, .inr 3, [((0, []), .inr (.inl 9)), ((1, []), zaI), ((2, []), zaI), ((3, []), .inr (.inl 22)), ((5, []), .inr (.inr (.inr (.inl (0, 30)))))])) (.leaf (10, 102, 11, .inr 3, [((1, []), .inr (.inl 13))])))) (.branch 16 (.leaf (14, 104, 7, .inr 3, [((1, []), zaI), ((3, []), .inr (.inr (.inr (.inl (0, 540))))), ((5, []), .inr (.inl 16))])) (.branch 22 (.leaf (17, 0, 540, .inr 1, [])) (.leaf (23, 105, 6, .inr 3, [((0, []), zaI), ((1, []), .inr (.inr (.inr (.inl (0, 1600))))), ((2, []), .inr (.inr (.inr (.inl (0, 1600))))), ((3, []), zaI), ((4, []), .inr (.inl 7)), ((5, []), .inr (.inr (.inr (.inl (0, 1600)))))])))), zw_5048, [], zp_5048.map (fun p => p.1))
def zu_5048 : List zCu := []
def zs_5048 : List zCt := [zc_5047, zc_5005]
theorem za_5048 : zwin zw_5048 zc_5048.2.2.2.2.2.1 = true := by decide +kernel
theorem z0_5048 : zst0 mi_P zw_5048 [] [] (fun d y as t en => zcal zw_5048 d y as t en zs_5048) zc_5048 zp_5048 zu_5048 470 = true := by decide +kernel
theorem zk_5048 : zu_5048.all (zck mi_P zc_5048.2.1 zw_5048 false [] [] (fun d y as t en => zcal zw_5048 d y as t en zs_5048) zc_5048.2.2.2.1.length zc_5048.2.2.2.1 zc_5048.2.2.2.2.2.1 zp_5048 zu_5048 470) = true := by decide +kernel
theorem zt_5048 {S : Nat × (Nat → Int32)} : zCtr mi_P S zTt zc_5048 := by
  have hc : ∀ c ∈ zs_5048, zCtr mi_P S zTt c := by
    intro c hc
    simp only [zs_5048, List.mem_cons, List.not_mem_nil, or_false] at hc
    rcases hc with rfl | rfl
    · exact zt_5047
    · exact zt_5005
  exact zCtr_of (Om := zTt) (ct := zc_5048) (ps := zp_5048) (fun _ _ _ _ => trivial) rfl hc za_5048 z0_5048 zk_5048
/-- L$Reader.readOne(I)V -/
def zw_5049 : zW := .branch 16 (.branch 13 (.leaf (9, [1, 2, 5])) (.leaf (14, [1, 3]))) (.branch 22 (.leaf (17, [0])) (.leaf (23, [0, 1, 2, 3])))
def zp_5049 : List (zPo × List (Nat ⊕ (Nat × zL))) := [(([], [], [(8, [((1, []), zaI), ((2, []), zaI), ((5, []), .inr (.inr (.inr (.inl (0, 30)))))]), (13, [((1, []), zaI), ((3, []), .inr (.inr (.inr (.inl (0, 540)))))]), (16, []), (22, [((0, []), zaI), ((1, []), .inr (.inr (.inr (.inl (0, 1600))))), ((2, []), .inr (.inr (.inr (.inl (0, 1600))))), ((3, []), zaI)])], none), [])]
def zc_5049 : zCt := (41, 46, [.inr (.inl 8), .inl (2, [])], [], [], .branch 13 (.branch 8 (.leaf (8, 1, 1600, .inl ((-128), 127), [])) (.branch 9 (.leaf (9, 101, 8, .inr 3, [((0, []), .inr (.inl 9)), ((1, []), zaI), ((2, []), zaI), ((3, []), .inr (.inl 22)), ((5, []), .inr (.inr (.inr (.inl (0, 30)))))])) (.leaf (10, 102, 11, .inr 3, [((1, []), .inr (.inl 13))])))) (.branch 16 (.leaf (14, 104, 7, .inr 3, [((1, []), zaI), ((3, []), .inr (.inr (.inr (.inl (0, 540))))), ((5, []), .inr (.inl 16))])) (.branch 22 (.leaf (17, 0, 540, .inr 1, [])) (.leaf (23, 105, 6, .inr 3, [((0, []), zaI), ((1, []), .inr (.inr (.inr (.inl (0, 1600))))), ((2, []), .inr (.inr (.inr (.inl (0, 1600))))), ((3, []), zaI), ((4, []), .inr (.inl 7)), ((5, []), .inr (.inr (.inr (.inl (0, 1600)))))])))), zw_5049, [], zp_5049.map (fun p => p.1))
def zu_5049 : List zCu := []
def zs_5049 : List zCt := [zc_5005, zc_5042, zc_5048]
theorem za_5049 : zwin zw_5049 zc_5049.2.2.2.2.2.1 = true := by decide +kernel
theorem z0_5049 : zst0 mi_P zw_5049 [] [] (fun d y as t en => zcal zw_5049 d y as t en zs_5049) zc_5049 zp_5049 zu_5049 296 = true := by decide +kernel
theorem zk_5049 : zu_5049.all (zck mi_P zc_5049.2.1 zw_5049 false [] [] (fun d y as t en => zcal zw_5049 d y as t en zs_5049) zc_5049.2.2.2.1.length zc_5049.2.2.2.1 zc_5049.2.2.2.2.2.1 zp_5049 zu_5049 296) = true := by decide +kernel
theorem zt_5049 {S : Nat × (Nat → Int32)} : zCtr mi_P S zTt zc_5049 := by
  have hc : ∀ c ∈ zs_5049, zCtr mi_P S zTt c := by
    intro c hc
    simp only [zs_5049, List.mem_cons, List.not_mem_nil, or_false] at hc
    rcases hc with rfl | rfl | rfl
    · exact zt_5005
    · exact zt_5042
    · exact zt_5048
  exact zCtr_of (Om := zTt) (ct := zc_5049) (ps := zp_5049) (fun _ _ _ _ => trivial) rfl hc za_5049 z0_5049 zk_5049
/-- L$Reader.readAnds(I)V -/
def zw_5050 : zW := .branch 16 (.branch 13 (.leaf (9, [1, 2, 5])) (.leaf (14, [1, 3]))) (.branch 22 (.leaf (17, [0])) (.leaf (23, [0, 1, 2, 3])))
def zp_5050 : List (zPo × List (Nat ⊕ (Nat × zL))) := [(([], [], [(8, [((1, []), zaI), ((2, []), zaI), ((5, []), .inr (.inr (.inr (.inl (0, 30)))))]), (13, [((1, []), zaI), ((3, []), .inr (.inr (.inr (.inl (0, 540)))))]), (16, []), (22, [((0, []), zaI), ((1, []), .inr (.inr (.inr (.inl (0, 1600))))), ((2, []), .inr (.inr (.inr (.inl (0, 1600))))), ((3, []), zaI)])], none), [])]
def zc_5050 : zCt := (40, 47, [.inr (.inl 8), .inl (2, [])], [], [], .branch 13 (.branch 8 (.leaf (8, 1, 1600, .inl ((-128), 127), [])) (.branch 9 (.leaf (9, 101, 8, .inr 3, [((0, []), .inr (.inl 9)), ((1, []), zaI), ((2, []), zaI), ((3, []), .inr (.inl 22)), ((5, []), .inr (.inr (.inr (.inl (0, 30)))))])) (.leaf (10, 102, 11, .inr 3, [((1, []), .inr (.inl 13))])))) (.branch 16 (.leaf (14, 104, 7, .inr 3, [((1, []), zaI), ((3, []), .inr (.inr (.inr (.inl (0, 540))))), ((5, []), .inr (.inl 16))])) (.branch 22 (.leaf (17, 0, 540, .inr 1, [])) (.leaf (23, 105, 6, .inr 3, [((0, []), zaI), ((1, []), .inr (.inr (.inr (.inl (0, 1600))))), ((2, []), .inr (.inr (.inr (.inl (0, 1600))))), ((3, []), zaI), ((4, []), .inr (.inl 7)), ((5, []), .inr (.inr (.inr (.inl (0, 1600)))))])))), zw_5050, [], zp_5050.map (fun p => p.1))
def zu_5050 : List zCu := [(([(40, 5, [(2, .inl (0, [(0, 1)])), (0, .inr (.inl 8)), (1, .inl (2, []))], [])], .branch 13 (.branch 8 (.leaf (8, 1, 1600, .inl ((-128), 127), [])) (.branch 9 (.leaf (9, 101, 8, .inr 3, [((0, []), .inr (.inl 9)), ((3, []), .inr (.inl 22)), ((1, []), zaI), ((2, []), zaI), ((5, []), .inr (.inr (.inr (.inl (0, 30)))))])) (.leaf (10, 102, 11, .inr 3, [((1, []), .inr (.inl 13))])))) (.branch 16 (.leaf (14, 104, 7, .inr 3, [((5, []), .inr (.inl 16)), ((1, []), zaI), ((3, []), .inr (.inr (.inr (.inl (0, 540)))))])) (.branch 22 (.leaf (17, 0, 540, .inr 1, [])) (.leaf (23, 105, 6, .inr 3, [((4, []), .inr (.inl 7)), ((5, []), .inr (.inr (.inr (.inl (0, 1600))))), ((0, []), zaI), ((1, []), .inr (.inr (.inr (.inl (0, 1600))))), ((2, []), .inr (.inr (.inr (.inl (0, 1600))))), ((3, []), zaI)])))), [(0, 30)], [], []), [.inl (0, 2)], (30, [(0, (-1))]))]
def zs_5050 : List zCt := [zc_5049, zc_5005]
theorem za_5050 : zwin zw_5050 zc_5050.2.2.2.2.2.1 = true := by decide +kernel
theorem z0_5050 : zst0 mi_P zw_5050 [] [] (fun d y as t en => zcal zw_5050 d y as t en zs_5050) zc_5050 zp_5050 zu_5050 292 = true := by decide +kernel
theorem zk_5050 : zu_5050.all (zck mi_P zc_5050.2.1 zw_5050 false [] [] (fun d y as t en => zcal zw_5050 d y as t en zs_5050) zc_5050.2.2.2.1.length zc_5050.2.2.2.1 zc_5050.2.2.2.2.2.1 zp_5050 zu_5050 292) = true := by decide +kernel
theorem zt_5050 {S : Nat × (Nat → Int32)} : zCtr mi_P S zTt zc_5050 := by
  have hc : ∀ c ∈ zs_5050, zCtr mi_P S zTt c := by
    intro c hc
    simp only [zs_5050, List.mem_cons, List.not_mem_nil, or_false] at hc
    rcases hc with rfl | rfl
    · exact zt_5049
    · exact zt_5005
  exact zCtr_of (Om := zTt) (ct := zc_5050) (ps := zp_5050) (fun _ _ _ _ => trivial) rfl hc za_5050 z0_5050 zk_5050
/-- L$Reader.readOrs(I)V -/
def zw_5051 : zW := .branch 16 (.branch 13 (.leaf (9, [1, 2, 5])) (.leaf (14, [1, 3]))) (.branch 22 (.leaf (17, [0])) (.leaf (23, [0, 1, 2, 3])))
def zp_5051 : List (zPo × List (Nat ⊕ (Nat × zL))) := [(([], [], [(8, [((1, []), zaI), ((2, []), zaI), ((5, []), .inr (.inr (.inr (.inl (0, 30)))))]), (13, [((1, []), zaI), ((3, []), .inr (.inr (.inr (.inl (0, 540)))))]), (16, []), (22, [((0, []), zaI), ((1, []), .inr (.inr (.inr (.inl (0, 1600))))), ((2, []), .inr (.inr (.inr (.inl (0, 1600))))), ((3, []), zaI)])], none), [])]
def zc_5051 : zCt := (39, 48, [.inr (.inl 8), .inl (2, [])], [], [], .branch 13 (.branch 8 (.leaf (8, 1, 1600, .inl ((-128), 127), [])) (.branch 9 (.leaf (9, 101, 8, .inr 3, [((0, []), .inr (.inl 9)), ((1, []), zaI), ((2, []), zaI), ((3, []), .inr (.inl 22)), ((5, []), .inr (.inr (.inr (.inl (0, 30)))))])) (.leaf (10, 102, 11, .inr 3, [((1, []), .inr (.inl 13))])))) (.branch 16 (.leaf (14, 104, 7, .inr 3, [((1, []), zaI), ((3, []), .inr (.inr (.inr (.inl (0, 540))))), ((5, []), .inr (.inl 16))])) (.branch 22 (.leaf (17, 0, 540, .inr 1, [])) (.leaf (23, 105, 6, .inr 3, [((0, []), zaI), ((1, []), .inr (.inr (.inr (.inl (0, 1600))))), ((2, []), .inr (.inr (.inr (.inl (0, 1600))))), ((3, []), zaI), ((4, []), .inr (.inl 7)), ((5, []), .inr (.inr (.inr (.inl (0, 1600)))))])))), zw_5051, [], zp_5051.map (fun p => p.1))
def zu_5051 : List zCu := [(([(39, 5, [(2, .inl (0, [(0, 1)])), (0, .inr (.inl 8)), (1, .inl (2, []))], [])], .branch 13 (.branch 8 (.leaf (8, 1, 1600, .inl ((-128), 127), [])) (.branch 9 (.leaf (9, 101, 8, .inr 3, [((0, []), .inr (.inl 9)), ((3, []), .inr (.inl 22)), ((1, []), zaI), ((2, []), zaI), ((5, []), .inr (.inr (.inr (.inl (0, 30)))))])) (.leaf (10, 102, 11, .inr 3, [((1, []), .inr (.inl 13))])))) (.branch 16 (.leaf (14, 104, 7, .inr 3, [((5, []), .inr (.inl 16)), ((1, []), zaI), ((3, []), .inr (.inr (.inr (.inl (0, 540)))))])) (.branch 22 (.leaf (17, 0, 540, .inr 1, [])) (.leaf (23, 105, 6, .inr 3, [((4, []), .inr (.inl 7)), ((5, []), .inr (.inr (.inr (.inl (0, 1600))))), ((0, []), zaI), ((1, []), .inr (.inr (.inr (.inl (0, 1600))))), ((2, []), .inr (.inr (.inr (.inl (0, 1600))))), ((3, []), zaI)])))), [(0, 30)], [], []), [.inl (0, 2)], (30, [(0, (-1))]))]
def zs_5051 : List zCt := [zc_5050, zc_5005]
theorem za_5051 : zwin zw_5051 zc_5051.2.2.2.2.2.1 = true := by decide +kernel
theorem z0_5051 : zst0 mi_P zw_5051 [] [] (fun d y as t en => zcal zw_5051 d y as t en zs_5051) zc_5051 zp_5051 zu_5051 292 = true := by decide +kernel
theorem zk_5051 : zu_5051.all (zck mi_P zc_5051.2.1 zw_5051 false [] [] (fun d y as t en => zcal zw_5051 d y as t en zs_5051) zc_5051.2.2.2.1.length zc_5051.2.2.2.1 zc_5051.2.2.2.2.2.1 zp_5051 zu_5051 292) = true := by decide +kernel
theorem zt_5051 {S : Nat × (Nat → Int32)} : zCtr mi_P S zTt zc_5051 := by
  have hc : ∀ c ∈ zs_5051, zCtr mi_P S zTt c := by
    intro c hc
    simp only [zs_5051, List.mem_cons, List.not_mem_nil, or_false] at hc
    rcases hc with rfl | rfl
    · exact zt_5050
    · exact zt_5005
  exact zCtr_of (Om := zTt) (ct := zc_5051) (ps := zp_5051) (fun _ _ _ _ => trivial) rfl hc za_5051 z0_5051 zk_5051
/-- L$Reader.readUnit(I)V -/
def zw_5052 : zW := .branch 16 (.branch 13 (.leaf (9, [1, 2, 5])) (.leaf (14, [1, 3]))) (.branch 22 (.leaf (17, [0])) (.leaf (23, [0, 1, 2, 3])))
def zp_5052 : List (zPo × List (Nat ⊕ (Nat × zL))) := [(([], [], [(8, [((1, []), zaI), ((2, []), zaI), ((5, []), .inr (.inr (.inr (.inl (0, 30)))))]), (13, [((1, []), zaI), ((3, []), .inr (.inr (.inr (.inl (0, 540)))))]), (16, []), (22, [((0, []), zaI), ((1, []), .inr (.inr (.inr (.inl (0, 1600))))), ((2, []), .inr (.inr (.inr (.inl (0, 1600))))), ((3, []), zaI)])], none), [])]
def zc_5052 : zCt := (45, 49, [.inr (.inl 8), .inl (1, [])], [], [], .branch 13 (.branch 8 (.leaf (8, 1, 1600, .inl ((-128), 127), [])) (.branch 9 (.leaf (9, 101, 8, .inr 3, [((0, []), .inr (.inl 9)), ((1, []), zaI), ((2, []), zaI), ((3, []), .inr (.inl 22)), ((5, []), .inr (.inr (.inr (.inl (0, 30)))))])) (.leaf (10, 102, 11, .inr 3, [((1, []), .inr (.inl 13))])))) (.branch 16 (.leaf (14, 104, 7, .inr 3, [((1, []), zaI), ((3, []), .inr (.inr (.inr (.inl (0, 540))))), ((5, []), .inr (.inl 16))])) (.branch 22 (.leaf (17, 0, 540, .inr 1, [])) (.leaf (23, 105, 6, .inr 3, [((0, []), zaI), ((1, []), .inr (.inr (.inr (.inl (0, 1600))))), ((2, []), .inr (.inr (.inr (.inl (0, 1600))))), ((3, []), zaI), ((4, []), .inr (.inl 7)), ((5, []), .inr (.inr (.inr (.inl (0, 1600)))))])))), zw_5052, [], zp_5052.map (fun p => p.1))
def zu_5052 : List zCu := []
def zs_5052 : List zCt := [zc_5007, zc_5005, zc_5051]
theorem za_5052 : zwin zw_5052 zc_5052.2.2.2.2.2.1 = true := by decide +kernel
theorem z0_5052 : zst0 mi_P zw_5052 [] [] (fun d y as t en => zcal zw_5052 d y as t en zs_5052) zc_5052 zp_5052 zu_5052 916 = true := by decide +kernel
theorem zk_5052 : zu_5052.all (zck mi_P zc_5052.2.1 zw_5052 false [] [] (fun d y as t en => zcal zw_5052 d y as t en zs_5052) zc_5052.2.2.2.1.length zc_5052.2.2.2.1 zc_5052.2.2.2.2.2.1 zp_5052 zu_5052 916) = true := by decide +kernel
theorem zt_5052 {S : Nat × (Nat → Int32)} : zCtr mi_P S zTt zc_5052 := by
  have hc : ∀ c ∈ zs_5052, zCtr mi_P S zTt c := by
    intro c hc
    simp only [zs_5052, List.mem_cons, List.not_mem_nil, or_false] at hc
    rcases hc with rfl | rfl | rfl
    · exact zt_5007
    · exact zt_5005
    · exact zt_5051
  exact zCtr_of (Om := zTt) (ct := zc_5052) (ps := zp_5052) (fun _ _ _ _ => trivial) rfl hc za_5052 z0_5052 zk_5052
/-- L$Reader.readTerm(I)V -/
def zw_5053 : zW := .branch 16 (.branch 13 (.leaf (9, [1, 2, 5])) (.leaf (14, [1, 3]))) (.branch 22 (.leaf (17, [0])) (.leaf (23, [0, 1, 2, 3])))
def zp_5053 : List (zPo × List (Nat ⊕ (Nat × zL))) := [(([], [], [(8, [((1, []), zaI), ((2, []), zaI), ((5, []), .inr (.inr (.inr (.inl (0, 30)))))]), (13, [((1, []), zaI), ((3, []), .inr (.inr (.inr (.inl (0, 540)))))]), (16, []), (22, [((0, []), zaI), ((1, []), .inr (.inr (.inr (.inl (0, 1600))))), ((2, []), .inr (.inr (.inr (.inl (0, 1600))))), ((3, []), zaI)])], none), [])]
def zc_5053 : zCt := (44, 50, [.inr (.inl 8), .inl (1, [])], [], [], .branch 13 (.branch 8 (.leaf (8, 1, 1600, .inl ((-128), 127), [])) (.branch 9 (.leaf (9, 101, 8, .inr 3, [((0, []), .inr (.inl 9)), ((1, []), zaI), ((2, []), zaI), ((3, []), .inr (.inl 22)), ((5, []), .inr (.inr (.inr (.inl (0, 30)))))])) (.leaf (10, 102, 11, .inr 3, [((1, []), .inr (.inl 13))])))) (.branch 16 (.leaf (14, 104, 7, .inr 3, [((1, []), zaI), ((3, []), .inr (.inr (.inr (.inl (0, 540))))), ((5, []), .inr (.inl 16))])) (.branch 22 (.leaf (17, 0, 540, .inr 1, [])) (.leaf (23, 105, 6, .inr 3, [((0, []), zaI), ((1, []), .inr (.inr (.inr (.inl (0, 1600))))), ((2, []), .inr (.inr (.inr (.inl (0, 1600))))), ((3, []), zaI), ((4, []), .inr (.inl 7)), ((5, []), .inr (.inr (.inr (.inl (0, 1600)))))])))), zw_5053, [], zp_5053.map (fun p => p.1))
def zu_5053 : List zCu := [(([(44, 5, [(2, .inl (0, [(0, 1)])), (0, .inr (.inl 8)), (1, .inl (1, []))], [])], .branch 13 (.branch 8 (.leaf (8, 1, 1600, .inl ((-128), 127), [])) (.branch 9 (.leaf (9, 101, 8, .inr 3, [((0, []), .inr (.inl 9)), ((3, []), .inr (.inl 22)), ((1, []), zaI), ((2, []), zaI), ((5, []), .inr (.inr (.inr (.inl (0, 30)))))])) (.leaf (10, 102, 11, .inr 3, [((1, []), .inr (.inl 13))])))) (.branch 16 (.leaf (14, 104, 7, .inr 3, [((5, []), .inr (.inl 16)), ((1, []), zaI), ((3, []), .inr (.inr (.inr (.inl (0, 540)))))])) (.branch 22 (.leaf (17, 0, 540, .inr 1, [])) (.leaf (23, 105, 6, .inr 3, [((4, []), .inr (.inl 7)), ((5, []), .inr (.inr (.inr (.inl (0, 1600))))), ((0, []), zaI), ((1, []), .inr (.inr (.inr (.inl (0, 1600))))), ((2, []), .inr (.inr (.inr (.inl (0, 1600))))), ((3, []), zaI)])))), [(0, 30)], [], []), [.inl (0, 2)], (30, [(0, (-1))]))]
def zs_5053 : List zCt := [zc_5052, zc_5005]
theorem za_5053 : zwin zw_5053 zc_5053.2.2.2.2.2.1 = true := by decide +kernel
theorem z0_5053 : zst0 mi_P zw_5053 [] [] (fun d y as t en => zcal zw_5053 d y as t en zs_5053) zc_5053 zp_5053 zu_5053 548 = true := by decide +kernel
theorem zk_5053 : zu_5053.all (zck mi_P zc_5053.2.1 zw_5053 false [] [] (fun d y as t en => zcal zw_5053 d y as t en zs_5053) zc_5053.2.2.2.1.length zc_5053.2.2.2.1 zc_5053.2.2.2.2.2.1 zp_5053 zu_5053 548) = true := by decide +kernel
theorem zt_5053 {S : Nat × (Nat → Int32)} : zCtr mi_P S zTt zc_5053 := by
  have hc : ∀ c ∈ zs_5053, zCtr mi_P S zTt c := by
    intro c hc
    simp only [zs_5053, List.mem_cons, List.not_mem_nil, or_false] at hc
    rcases hc with rfl | rfl
    · exact zt_5052
    · exact zt_5005
  exact zCtr_of (Om := zTt) (ct := zc_5053) (ps := zp_5053) (fun _ _ _ _ => trivial) rfl hc za_5053 z0_5053 zk_5053
/-- L$Reader.readSum(I)V -/
def zw_5054 : zW := .branch 16 (.branch 13 (.leaf (9, [1, 2, 5])) (.leaf (14, [1, 3]))) (.branch 22 (.leaf (17, [0])) (.leaf (23, [0, 1, 2, 3])))
def zp_5054 : List (zPo × List (Nat ⊕ (Nat × zL))) := [(([], [], [(8, [((1, []), zaI), ((2, []), zaI), ((5, []), .inr (.inr (.inr (.inl (0, 30)))))]), (13, [((1, []), zaI), ((3, []), .inr (.inr (.inr (.inl (0, 540)))))]), (16, []), (22, [((0, []), zaI), ((1, []), .inr (.inr (.inr (.inl (0, 1600))))), ((2, []), .inr (.inr (.inr (.inl (0, 1600))))), ((3, []), zaI)])], none), [])]
def zc_5054 : zCt := (43, 51, [.inr (.inl 8), .inl (1, [])], [], [], .branch 13 (.branch 8 (.leaf (8, 1, 1600, .inl ((-128), 127), [])) (.branch 9 (.leaf (9, 101, 8, .inr 3, [((0, []), .inr (.inl 9)), ((1, []), zaI), ((2, []), zaI), ((3, []), .inr (.inl 22)), ((5, []), .inr (.inr (.inr (.inl (0, 30)))))])) (.leaf (10, 102, 11, .inr 3, [((1, []), .inr (.inl 13))])))) (.branch 16 (.leaf (14, 104, 7, .inr 3, [((1, []), zaI), ((3, []), .inr (.inr (.inr (.inl (0, 540))))), ((5, []), .inr (.inl 16))])) (.branch 22 (.leaf (17, 0, 540, .inr 1, [])) (.leaf (23, 105, 6, .inr 3, [((0, []), zaI), ((1, []), .inr (.inr (.inr (.inl (0, 1600))))), ((2, []), .inr (.inr (.inr (.inl (0, 1600))))), ((3, []), zaI), ((4, []), .inr (.inl 7)), ((5, []), .inr (.inr (.inr (.inl (0, 1600)))))])))), zw_5054, [], zp_5054.map (fun p => p.1))
def zu_5054 : List zCu := [(([(43, 5, [(2, .inl (0, [(0, 1)])), (0, .inr (.inl 8)), (1, .inl (1, []))], [])], .branch 13 (.branch 8 (.leaf (8, 1, 1600, .inl ((-128), 127), [])) (.branch 9 (.leaf (9, 101, 8, .inr 3, [((0, []), .inr (.inl 9)), ((3, []), .inr (.inl 22)), ((1, []), zaI), ((2, []), zaI), ((5, []), .inr (.inr (.inr (.inl (0, 30)))))])) (.leaf (10, 102, 11, .inr 3, [((1, []), .inr (.inl 13))])))) (.branch 16 (.leaf (14, 104, 7, .inr 3, [((5, []), .inr (.inl 16)), ((1, []), zaI), ((3, []), .inr (.inr (.inr (.inl (0, 540)))))])) (.branch 22 (.leaf (17, 0, 540, .inr 1, [])) (.leaf (23, 105, 6, .inr 3, [((4, []), .inr (.inl 7)), ((5, []), .inr (.inr (.inr (.inl (0, 1600))))), ((0, []), zaI), ((1, []), .inr (.inr (.inr (.inl (0, 1600))))), ((2, []), .inr (.inr (.inr (.inl (0, 1600))))), ((3, []), zaI)])))), [(0, 30)], [], []), [.inl (0, 2)], (30, [(0, (-1))]))]
def zs_5054 : List zCt := [zc_5053, zc_5005]
theorem za_5054 : zwin zw_5054 zc_5054.2.2.2.2.2.1 = true := by decide +kernel
theorem z0_5054 : zst0 mi_P zw_5054 [] [] (fun d y as t en => zcal zw_5054 d y as t en zs_5054) zc_5054 zp_5054 zu_5054 408 = true := by decide +kernel
theorem zk_5054 : zu_5054.all (zck mi_P zc_5054.2.1 zw_5054 false [] [] (fun d y as t en => zcal zw_5054 d y as t en zs_5054) zc_5054.2.2.2.1.length zc_5054.2.2.2.1 zc_5054.2.2.2.2.2.1 zp_5054 zu_5054 408) = true := by decide +kernel
theorem zt_5054 {S : Nat × (Nat → Int32)} : zCtr mi_P S zTt zc_5054 := by
  have hc : ∀ c ∈ zs_5054, zCtr mi_P S zTt c := by
    intro c hc
    simp only [zs_5054, List.mem_cons, List.not_mem_nil, or_false] at hc
    rcases hc with rfl | rfl
    · exact zt_5053
    · exact zt_5005
  exact zCtr_of (Om := zTt) (ct := zc_5054) (ps := zp_5054) (fun _ _ _ _ => trivial) rfl hc za_5054 z0_5054 zk_5054
/-- L$Reader.readRelation(I)V -/
def zw_5055 : zW := .branch 16 (.branch 13 (.leaf (9, [1, 2, 5])) (.leaf (14, [1, 3]))) (.branch 22 (.leaf (17, [0])) (.leaf (23, [0, 1, 2, 3])))
def zp_5055 : List (zPo × List (Nat ⊕ (Nat × zL))) := [(([], [], [(8, [((1, []), zaI), ((2, []), zaI), ((5, []), .inr (.inr (.inr (.inl (0, 30)))))]), (13, [((1, []), zaI), ((3, []), .inr (.inr (.inr (.inl (0, 540)))))]), (16, []), (22, [((0, []), zaI), ((1, []), .inr (.inr (.inr (.inl (0, 1600))))), ((2, []), .inr (.inr (.inr (.inl (0, 1600))))), ((3, []), zaI)])], none), [])]
def zc_5055 : zCt := (42, 52, [.inr (.inl 8), .inl (1, [])], [], [], .branch 13 (.branch 8 (.leaf (8, 1, 1600, .inl ((-128), 127), [])) (.branch 9 (.leaf (9, 101, 8, .inr 3, [((0, []), .inr (.inl 9)), ((1, []), zaI), ((2, []), zaI), ((3, []), .inr (.inl 22)), ((5, []), .inr (.inr (.inr (.inl (0, 30)))))])) (.leaf (10, 102, 11, .inr 3, [((1, []), .inr (.inl 13))])))) (.branch 16 (.leaf (14, 104, 7, .inr 3, [((1, []), zaI), ((3, []), .inr (.inr (.inr (.inl (0, 540))))), ((5, []), .inr (.inl 16))])) (.branch 22 (.leaf (17, 0, 540, .inr 1, [])) (.leaf (23, 105, 6, .inr 3, [((0, []), zaI), ((1, []), .inr (.inr (.inr (.inl (0, 1600))))), ((2, []), .inr (.inr (.inr (.inl (0, 1600))))), ((3, []), zaI), ((4, []), .inr (.inl 7)), ((5, []), .inr (.inr (.inr (.inl (0, 1600)))))])))), zw_5055, [], zp_5055.map (fun p => p.1))
def zu_5055 : List zCu := []
def zs_5055 : List zCt := [zc_5054, zc_5005]
theorem za_5055 : zwin zw_5055 zc_5055.2.2.2.2.2.1 = true := by decide +kernel
theorem z0_5055 : zst0 mi_P zw_5055 [] [] (fun d y as t en => zcal zw_5055 d y as t en zs_5055) zc_5055 zp_5055 zu_5055 470 = true := by decide +kernel
theorem zk_5055 : zu_5055.all (zck mi_P zc_5055.2.1 zw_5055 false [] [] (fun d y as t en => zcal zw_5055 d y as t en zs_5055) zc_5055.2.2.2.1.length zc_5055.2.2.2.1 zc_5055.2.2.2.2.2.1 zp_5055 zu_5055 470) = true := by decide +kernel
theorem zt_5055 {S : Nat × (Nat → Int32)} : zCtr mi_P S zTt zc_5055 := by
  have hc : ∀ c ∈ zs_5055, zCtr mi_P S zTt c := by
    intro c hc
    simp only [zs_5055, List.mem_cons, List.not_mem_nil, or_false] at hc
    rcases hc with rfl | rfl
    · exact zt_5054
    · exact zt_5005
  exact zCtr_of (Om := zTt) (ct := zc_5055) (ps := zp_5055) (fun _ _ _ _ => trivial) rfl hc za_5055 z0_5055 zk_5055
/-- L$Reader.readOne(I)V -/
def zw_5056 : zW := .branch 16 (.branch 13 (.leaf (9, [1, 2, 5])) (.leaf (14, [1, 3]))) (.branch 22 (.leaf (17, [0])) (.leaf (23, [0, 1, 2, 3])))
def zp_5056 : List (zPo × List (Nat ⊕ (Nat × zL))) := [(([], [], [(8, [((1, []), zaI), ((2, []), zaI), ((5, []), .inr (.inr (.inr (.inl (0, 30)))))]), (13, [((1, []), zaI), ((3, []), .inr (.inr (.inr (.inl (0, 540)))))]), (16, []), (22, [((0, []), zaI), ((1, []), .inr (.inr (.inr (.inl (0, 1600))))), ((2, []), .inr (.inr (.inr (.inl (0, 1600))))), ((3, []), zaI)])], none), [])]
def zc_5056 : zCt := (41, 53, [.inr (.inl 8), .inl (1, [])], [], [], .branch 13 (.branch 8 (.leaf (8, 1, 1600, .inl ((-128), 127), [])) (.branch 9 (.leaf (9, 101, 8, .inr 3, [((0, []), .inr (.inl 9)), ((1, []), zaI), ((2, []), zaI), ((3, []), .inr (.inl 22)), ((5, []), .inr (.inr (.inr (.inl (0, 30)))))])) (.leaf (10, 102, 11, .inr 3, [((1, []), .inr (.inl 13))])))) (.branch 16 (.leaf (14, 104, 7, .inr 3, [((1, []), zaI), ((3, []), .inr (.inr (.inr (.inl (0, 540))))), ((5, []), .inr (.inl 16))])) (.branch 22 (.leaf (17, 0, 540, .inr 1, [])) (.leaf (23, 105, 6, .inr 3, [((0, []), zaI), ((1, []), .inr (.inr (.inr (.inl (0, 1600))))), ((2, []), .inr (.inr (.inr (.inl (0, 1600))))), ((3, []), zaI), ((4, []), .inr (.inl 7)), ((5, []), .inr (.inr (.inr (.inl (0, 1600)))))])))), zw_5056, [], zp_5056.map (fun p => p.1))
def zu_5056 : List zCu := []
def zs_5056 : List zCt := [zc_5005, zc_5049, zc_5055]
theorem za_5056 : zwin zw_5056 zc_5056.2.2.2.2.2.1 = true := by decide +kernel
theorem z0_5056 : zst0 mi_P zw_5056 [] [] (fun d y as t en => zcal zw_5056 d y as t en zs_5056) zc_5056 zp_5056 zu_5056 296 = true := by decide +kernel
theorem zk_5056 : zu_5056.all (zck mi_P zc_5056.2.1 zw_5056 false [] [] (fun d y as t en => zcal zw_5056 d y as t en zs_5056) zc_5056.2.2.2.1.length zc_5056.2.2.2.1 zc_5056.2.2.2.2.2.1 zp_5056 zu_5056 296) = true := by decide +kernel
theorem zt_5056 {S : Nat × (Nat → Int32)} : zCtr mi_P S zTt zc_5056 := by
  have hc : ∀ c ∈ zs_5056, zCtr mi_P S zTt c := by
    intro c hc
    simp only [zs_5056, List.mem_cons, List.not_mem_nil, or_false] at hc
    rcases hc with rfl | rfl | rfl
    · exact zt_5005
    · exact zt_5049
    · exact zt_5055
  exact zCtr_of (Om := zTt) (ct := zc_5056) (ps := zp_5056) (fun _ _ _ _ => trivial) rfl hc za_5056 z0_5056 zk_5056
/-- L$Reader.readAnds(I)V -/
def zw_5057 : zW := .branch 16 (.branch 13 (.leaf (9, [1, 2, 5])) (.leaf (14, [1, 3]))) (.branch 22 (.leaf (17, [0])) (.leaf (23, [0, 1, 2, 3])))
def zp_5057 : List (zPo × List (Nat ⊕ (Nat × zL))) := [(([], [], [(8, [((1, []), zaI), ((2, []), zaI), ((5, []), .inr (.inr (.inr (.inl (0, 30)))))]), (13, [((1, []), zaI), ((3, []), .inr (.inr (.inr (.inl (0, 540)))))]), (16, []), (22, [((0, []), zaI), ((1, []), .inr (.inr (.inr (.inl (0, 1600))))), ((2, []), .inr (.inr (.inr (.inl (0, 1600))))), ((3, []), zaI)])], none), [])]
def zc_5057 : zCt := (40, 54, [.inr (.inl 8), .inl (1, [])], [], [], .branch 13 (.branch 8 (.leaf (8, 1, 1600, .inl ((-128), 127), [])) (.branch 9 (.leaf (9, 101, 8, .inr 3, [((0, []), .inr (.inl 9)), ((1, []), zaI), ((2, []), zaI), ((3, []), .inr (.inl 22)), ((5, []), .inr (.inr (.inr (.inl (0, 30)))))])) (.leaf (10, 102, 11, .inr 3, [((1, []), .inr (.inl 13))])))) (.branch 16 (.leaf (14, 104, 7, .inr 3, [((1, []), zaI), ((3, []), .inr (.inr (.inr (.inl (0, 540))))), ((5, []), .inr (.inl 16))])) (.branch 22 (.leaf (17, 0, 540, .inr 1, [])) (.leaf (23, 105, 6, .inr 3, [((0, []), zaI), ((1, []), .inr (.inr (.inr (.inl (0, 1600))))), ((2, []), .inr (.inr (.inr (.inl (0, 1600))))), ((3, []), zaI), ((4, []), .inr (.inl 7)), ((5, []), .inr (.inr (.inr (.inl (0, 1600)))))])))), zw_5057, [], zp_5057.map (fun p => p.1))
def zu_5057 : List zCu := [(([(40, 5, [(2, .inl (0, [(0, 1)])), (0, .inr (.inl 8)), (1, .inl (1, []))], [])], .branch 13 (.branch 8 (.leaf (8, 1, 1600, .inl ((-128), 127), [])) (.branch 9 (.leaf (9, 101, 8, .inr 3, [((0, []), .inr (.inl 9)), ((3, []), .inr (.inl 22)), ((1, []), zaI), ((2, []), zaI), ((5, []), .inr (.inr (.inr (.inl (0, 30)))))])) (.leaf (10, 102, 11, .inr 3, [((1, []), .inr (.inl 13))])))) (.branch 16 (.leaf (14, 104, 7, .inr 3, [((5, []), .inr (.inl 16)), ((1, []), zaI), ((3, []), .inr (.inr (.inr (.inl (0, 540)))))])) (.branch 22 (.leaf (17, 0, 540, .inr 1, [])) (.leaf (23, 105, 6, .inr 3, [((4, []), .inr (.inl 7)), ((5, []), .inr (.inr (.inr (.inl (0, 1600))))), ((0, []), zaI), ((1, []), .inr (.inr (.inr (.inl (0, 1600))))), ((2, []), .inr (.inr (.inr (.inl (0, 1600))))), ((3, []), zaI)])))), [(0, 30)], [], []), [.inl (0, 2)], (30, [(0, (-1))]))]
def zs_5057 : List zCt := [zc_5056, zc_5005]
theorem za_5057 : zwin zw_5057 zc_5057.2.2.2.2.2.1 = true := by decide +kernel
theorem z0_5057 : zst0 mi_P zw_5057 [] [] (fun d y as t en => zcal zw_5057 d y as t en zs_5057) zc_5057 zp_5057 zu_5057 292 = true := by decide +kernel
theorem zk_5057 : zu_5057.all (zck mi_P zc_5057.2.1 zw_5057 false [] [] (fun d y as t en => zcal zw_5057 d y as t en zs_5057) zc_5057.2.2.2.1.length zc_5057.2.2.2.1 zc_5057.2.2.2.2.2.1 zp_5057 zu_5057 292) = true := by decide +kernel
theorem zt_5057 {S : Nat × (Nat → Int32)} : zCtr mi_P S zTt zc_5057 := by
  have hc : ∀ c ∈ zs_5057, zCtr mi_P S zTt c := by
    intro c hc
    simp only [zs_5057, List.mem_cons, List.not_mem_nil, or_false] at hc
    rcases hc with rfl | rfl
    · exact zt_5056
    · exact zt_5005
  exact zCtr_of (Om := zTt) (ct := zc_5057) (ps := zp_5057) (fun _ _ _ _ => trivial) rfl hc za_5057 z0_5057 zk_5057
/-- L$Reader.readOrs(I)V -/
def zw_5058 : zW := .branch 16 (.branch 13 (.leaf (9, [1, 2, 5])) (.leaf (14, [1, 3]))) (.branch 22 (.leaf (17, [0])) (.leaf (23, [0, 1, 2, 3])))
def zp_5058 : List (zPo × List (Nat ⊕ (Nat × zL))) := [(([], [], [(8, [((1, []), zaI), ((2, []), zaI), ((5, []), .inr (.inr (.inr (.inl (0, 30)))))]), (13, [((1, []), zaI), ((3, []), .inr (.inr (.inr (.inl (0, 540)))))]), (16, []), (22, [((0, []), zaI), ((1, []), .inr (.inr (.inr (.inl (0, 1600))))), ((2, []), .inr (.inr (.inr (.inl (0, 1600))))), ((3, []), zaI)])], none), [])]
def zc_5058 : zCt := (39, 55, [.inr (.inl 8), .inl (1, [])], [], [], .branch 13 (.branch 8 (.leaf (8, 1, 1600, .inl ((-128), 127), [])) (.branch 9 (.leaf (9, 101, 8, .inr 3, [((0, []), .inr (.inl 9)), ((1, []), zaI), ((2, []), zaI), ((3, []), .inr (.inl 22)), ((5, []), .inr (.inr (.inr (.inl (0, 30)))))])) (.leaf (10, 102, 11, .inr 3, [((1, []), .inr (.inl 13))])))) (.branch 16 (.leaf (14, 104, 7, .inr 3, [((1, []), zaI), ((3, []), .inr (.inr (.inr (.inl (0, 540))))), ((5, []), .inr (.inl 16))])) (.branch 22 (.leaf (17, 0, 540, .inr 1, [])) (.leaf (23, 105, 6, .inr 3, [((0, []), zaI), ((1, []), .inr (.inr (.inr (.inl (0, 1600))))), ((2, []), .inr (.inr (.inr (.inl (0, 1600))))), ((3, []), zaI), ((4, []), .inr (.inl 7)), ((5, []), .inr (.inr (.inr (.inl (0, 1600)))))])))), zw_5058, [], zp_5058.map (fun p => p.1))
def zu_5058 : List zCu := [(([(39, 5, [(2, .inl (0, [(0, 1)])), (0, .inr (.inl 8)), (1, .inl (1, []))], [])], .branch 13 (.branch 8 (.leaf (8, 1, 1600, .inl ((-128), 127), [])) (.branch 9 (.leaf (9, 101, 8, .inr 3, [((0, []), .inr (.inl 9)), ((3, []), .inr (.inl 22)), ((1, []), zaI), ((2, []), zaI), ((5, []), .inr (.inr (.inr (.inl (0, 30)))))])) (.leaf (10, 102, 11, .inr 3, [((1, []), .inr (.inl 13))])))) (.branch 16 (.leaf (14, 104, 7, .inr 3, [((5, []), .inr (.inl 16)), ((1, []), zaI), ((3, []), .inr (.inr (.inr (.inl (0, 540)))))])) (.branch 22 (.leaf (17, 0, 540, .inr 1, [])) (.leaf (23, 105, 6, .inr 3, [((4, []), .inr (.inl 7)), ((5, []), .inr (.inr (.inr (.inl (0, 1600))))), ((0, []), zaI), ((1, []), .inr (.inr (.inr (.inl (0, 1600))))), ((2, []), .inr (.inr (.inr (.inl (0, 1600))))), ((3, []), zaI)])))), [(0, 30)], [], []), [.inl (0, 2)], (30, [(0, (-1))]))]
def zs_5058 : List zCt := [zc_5057, zc_5005]
theorem za_5058 : zwin zw_5058 zc_5058.2.2.2.2.2.1 = true := by decide +kernel
theorem z0_5058 : zst0 mi_P zw_5058 [] [] (fun d y as t en => zcal zw_5058 d y as t en zs_5058) zc_5058 zp_5058 zu_5058 292 = true := by decide +kernel
theorem zk_5058 : zu_5058.all (zck mi_P zc_5058.2.1 zw_5058 false [] [] (fun d y as t en => zcal zw_5058 d y as t en zs_5058) zc_5058.2.2.2.1.length zc_5058.2.2.2.1 zc_5058.2.2.2.2.2.1 zp_5058 zu_5058 292) = true := by decide +kernel
theorem zt_5058 {S : Nat × (Nat → Int32)} : zCtr mi_P S zTt zc_5058 := by
  have hc : ∀ c ∈ zs_5058, zCtr mi_P S zTt c := by
    intro c hc
    simp only [zs_5058, List.mem_cons, List.not_mem_nil, or_false] at hc
    rcases hc with rfl | rfl
    · exact zt_5057
    · exact zt_5005
  exact zCtr_of (Om := zTt) (ct := zc_5058) (ps := zp_5058) (fun _ _ _ _ => trivial) rfl hc za_5058 z0_5058 zk_5058
/-- L$Reader.readUnit(I)V -/
def zw_5059 : zW := .branch 16 (.branch 13 (.leaf (9, [1, 2, 5])) (.leaf (14, [1, 3]))) (.branch 22 (.leaf (17, [0])) (.leaf (23, [0, 1, 2, 3])))
def zp_5059 : List (zPo × List (Nat ⊕ (Nat × zL))) := [(([], [], [(8, [((1, []), zaI), ((2, []), zaI), ((5, []), .inr (.inr (.inr (.inl (0, 30)))))]), (13, [((1, []), zaI), ((3, []), .inr (.inr (.inr (.inl (0, 540)))))]), (16, []), (22, [((0, []), zaI), ((1, []), .inr (.inr (.inr (.inl (0, 1600))))), ((2, []), .inr (.inr (.inr (.inl (0, 1600))))), ((3, []), zaI)])], none), [])]
def zc_5059 : zCt := (45, 56, [.inr (.inl 8), .inl (0, [])], [], [], .branch 13 (.branch 8 (.leaf (8, 1, 1600, .inl ((-128), 127), [])) (.branch 9 (.leaf (9, 101, 8, .inr 3, [((0, []), .inr (.inl 9)), ((1, []), zaI), ((2, []), zaI), ((3, []), .inr (.inl 22)), ((5, []), .inr (.inr (.inr (.inl (0, 30)))))])) (.leaf (10, 102, 11, .inr 3, [((1, []), .inr (.inl 13))])))) (.branch 16 (.leaf (14, 104, 7, .inr 3, [((1, []), zaI), ((3, []), .inr (.inr (.inr (.inl (0, 540))))), ((5, []), .inr (.inl 16))])) (.branch 22 (.leaf (17, 0, 540, .inr 1, [])) (.leaf (23, 105, 6, .inr 3, [((0, []), zaI), ((1, []), .inr (.inr (.inr (.inl (0, 1600))))), ((2, []), .inr (.inr (.inr (.inl (0, 1600))))), ((3, []), zaI), ((4, []), .inr (.inl 7)), ((5, []), .inr (.inr (.inr (.inl (0, 1600)))))])))), zw_5059, [], zp_5059.map (fun p => p.1))
def zu_5059 : List zCu := []
def zs_5059 : List zCt := [zc_5007, zc_5005, zc_5058]
theorem za_5059 : zwin zw_5059 zc_5059.2.2.2.2.2.1 = true := by decide +kernel
theorem z0_5059 : zst0 mi_P zw_5059 [] [] (fun d y as t en => zcal zw_5059 d y as t en zs_5059) zc_5059 zp_5059 zu_5059 916 = true := by decide +kernel
theorem zk_5059 : zu_5059.all (zck mi_P zc_5059.2.1 zw_5059 false [] [] (fun d y as t en => zcal zw_5059 d y as t en zs_5059) zc_5059.2.2.2.1.length zc_5059.2.2.2.1 zc_5059.2.2.2.2.2.1 zp_5059 zu_5059 916) = true := by decide +kernel
theorem zt_5059 {S : Nat × (Nat → Int32)} : zCtr mi_P S zTt zc_5059 := by
  have hc : ∀ c ∈ zs_5059, zCtr mi_P S zTt c := by
    intro c hc
    simp only [zs_5059, List.mem_cons, List.not_mem_nil, or_false] at hc
    rcases hc with rfl | rfl | rfl
    · exact zt_5007
    · exact zt_5005
    · exact zt_5058
  exact zCtr_of (Om := zTt) (ct := zc_5059) (ps := zp_5059) (fun _ _ _ _ => trivial) rfl hc za_5059 z0_5059 zk_5059
/-- L$Reader.readTerm(I)V -/
def zw_5060 : zW := .branch 16 (.branch 13 (.leaf (9, [1, 2, 5])) (.leaf (14, [1, 3]))) (.branch 22 (.leaf (17, [0])) (.leaf (23, [0, 1, 2, 3])))
def zp_5060 : List (zPo × List (Nat ⊕ (Nat × zL))) := [(([], [], [(8, [((1, []), zaI), ((2, []), zaI), ((5, []), .inr (.inr (.inr (.inl (0, 30)))))]), (13, [((1, []), zaI), ((3, []), .inr (.inr (.inr (.inl (0, 540)))))]), (16, []), (22, [((0, []), zaI), ((1, []), .inr (.inr (.inr (.inl (0, 1600))))), ((2, []), .inr (.inr (.inr (.inl (0, 1600))))), ((3, []), zaI)])], none), [])]
def zc_5060 : zCt := (44, 57, [.inr (.inl 8), .inl (0, [])], [], [], .branch 13 (.branch 8 (.leaf (8, 1, 1600, .inl ((-128), 127), [])) (.branch 9 (.leaf (9, 101, 8, .inr 3, [((0, []), .inr (.inl 9)), ((1, []), zaI), ((2, []), zaI), ((3, []), .inr (.inl 22)), ((5, []), .inr (.inr (.inr (.inl (0, 30)))))])) (.leaf (10, 102, 11, .inr 3, [((1, []), .inr (.inl 13))])))) (.branch 16 (.leaf (14, 104, 7, .inr 3, [((1, []), zaI), ((3, []), .inr (.inr (.inr (.inl (0, 540))))), ((5, []), .inr (.inl 16))])) (.branch 22 (.leaf (17, 0, 540, .inr 1, [])) (.leaf (23, 105, 6, .inr 3, [((0, []), zaI), ((1, []), .inr (.inr (.inr (.inl (0, 1600))))), ((2, []), .inr (.inr (.inr (.inl (0, 1600))))), ((3, []), zaI), ((4, []), .inr (.inl 7)), ((5, []), .inr (.inr (.inr (.inl (0, 1600)))))])))), zw_5060, [], zp_5060.map (fun p => p.1))
def zu_5060 : List zCu := [(([(44, 5, [(2, .inl (0, [(0, 1)])), (0, .inr (.inl 8)), (1, .inl (0, []))], [])], .branch 13 (.branch 8 (.leaf (8, 1, 1600, .inl ((-128), 127), [])) (.branch 9 (.leaf (9, 101, 8, .inr 3, [((0, []), .inr (.inl 9)), ((3, []), .inr (.inl 22)), ((1, []), zaI), ((2, []), zaI), ((5, []), .inr (.inr (.inr (.inl (0, 30)))))])) (.leaf (10, 102, 11, .inr 3, [((1, []), .inr (.inl 13))])))) (.branch 16 (.leaf (14, 104, 7, .inr 3, [((5, []), .inr (.inl 16)), ((1, []), zaI), ((3, []), .inr (.inr (.inr (.inl (0, 540)))))])) (.branch 22 (.leaf (17, 0, 540, .inr 1, [])) (.leaf (23, 105, 6, .inr 3, [((4, []), .inr (.inl 7)), ((5, []), .inr (.inr (.inr (.inl (0, 1600))))), ((0, []), zaI), ((1, []), .inr (.inr (.inr (.inl (0, 1600))))), ((2, []), .inr (.inr (.inr (.inl (0, 1600))))), ((3, []), zaI)])))), [(0, 30)], [], []), [.inl (0, 2)], (30, [(0, (-1))]))]
def zs_5060 : List zCt := [zc_5059, zc_5005]
theorem za_5060 : zwin zw_5060 zc_5060.2.2.2.2.2.1 = true := by decide +kernel
theorem z0_5060 : zst0 mi_P zw_5060 [] [] (fun d y as t en => zcal zw_5060 d y as t en zs_5060) zc_5060 zp_5060 zu_5060 548 = true := by decide +kernel
theorem zk_5060 : zu_5060.all (zck mi_P zc_5060.2.1 zw_5060 false [] [] (fun d y as t en => zcal zw_5060 d y as t en zs_5060) zc_5060.2.2.2.1.length zc_5060.2.2.2.1 zc_5060.2.2.2.2.2.1 zp_5060 zu_5060 548) = true := by decide +kernel
theorem zt_5060 {S : Nat × (Nat → Int32)} : zCtr mi_P S zTt zc_5060 := by
  have hc : ∀ c ∈ zs_5060, zCtr mi_P S zTt c := by
    intro c hc
    simp only [zs_5060, List.mem_cons, List.not_mem_nil, or_false] at hc
    rcases hc with rfl | rfl
    · exact zt_5059
    · exact zt_5005
  exact zCtr_of (Om := zTt) (ct := zc_5060) (ps := zp_5060) (fun _ _ _ _ => trivial) rfl hc za_5060 z0_5060 zk_5060
/-- L$Reader.readSum(I)V -/
def zw_5061 : zW := .branch 16 (.branch 13 (.leaf (9, [1, 2, 5])) (.leaf (14, [1, 3]))) (.branch 22 (.leaf (17, [0])) (.leaf (23, [0, 1, 2, 3])))
def zp_5061 : List (zPo × List (Nat ⊕ (Nat × zL))) := [(([], [], [(8, [((1, []), zaI), ((2, []), zaI), ((5, []), .inr (.inr (.inr (.inl (0, 30)))))]), (13, [((1, []), zaI), ((3, []), .inr (.inr (.inr (.inl (0, 540)))))]), (16, []), (22, [((0, []), zaI), ((1, []), .inr (.inr (.inr (.inl (0, 1600))))), ((2, []), .inr (.inr (.inr (.inl (0, 1600))))), ((3, []), zaI)])], none), [])]
def zc_5061 : zCt := (43, 58, [.inr (.inl 8), .inl (0, [])], [], [], .branch 13 (.branch 8 (.leaf (8, 1, 1600, .inl ((-128), 127), [])) (.branch 9 (.leaf (9, 101, 8, .inr 3, [((0, []), .inr (.inl 9)), ((1, []), zaI), ((2, []), zaI), ((3, []), .inr (.inl 22)), ((5, []), .inr (.inr (.inr (.inl (0, 30)))))])) (.leaf (10, 102, 11, .inr 3, [((1, []), .inr (.inl 13))])))) (.branch 16 (.leaf (14, 104, 7, .inr 3, [((1, []), zaI), ((3, []), .inr (.inr (.inr (.inl (0, 540))))), ((5, []), .inr (.inl 16))])) (.branch 22 (.leaf (17, 0, 540, .inr 1, [])) (.leaf (23, 105, 6, .inr 3, [((0, []), zaI), ((1, []), .inr (.inr (.inr (.inl (0, 1600))))), ((2, []), .inr (.inr (.inr (.inl (0, 1600))))), ((3, []), zaI), ((4, []), .inr (.inl 7)), ((5, []), .inr (.inr (.inr (.inl (0, 1600)))))])))), zw_5061, [], zp_5061.map (fun p => p.1))
def zu_5061 : List zCu := [(([(43, 5, [(2, .inl (0, [(0, 1)])), (0, .inr (.inl 8)), (1, .inl (0, []))], [])], .branch 13 (.branch 8 (.leaf (8, 1, 1600, .inl ((-128), 127), [])) (.branch 9 (.leaf (9, 101, 8, .inr 3, [((0, []), .inr (.inl 9)), ((3, []), .inr (.inl 22)), ((1, []), zaI), ((2, []), zaI), ((5, []), .inr (.inr (.inr (.inl (0, 30)))))])) (.leaf (10, 102, 11, .inr 3, [((1, []), .inr (.inl 13))])))) (.branch 16 (.leaf (14, 104, 7, .inr 3, [((5, []), .inr (.inl 16)), ((1, []), zaI), ((3, []), .inr (.inr (.inr (.inl (0, 540)))))])) (.branch 22 (.leaf (17, 0, 540, .inr 1, [])) (.leaf (23, 105, 6, .inr 3, [((4, []), .inr (.inl 7)), ((5, []), .inr (.inr (.inr (.inl (0, 1600))))), ((0, []), zaI), ((1, []), .inr (.inr (.inr (.inl (0, 1600))))), ((2, []), .inr (.inr (.inr (.inl (0, 1600))))), ((3, []), zaI)])))), [(0, 30)], [], []), [.inl (0, 2)], (30, [(0, (-1))]))]
def zs_5061 : List zCt := [zc_5060, zc_5005]
theorem za_5061 : zwin zw_5061 zc_5061.2.2.2.2.2.1 = true := by decide +kernel
theorem z0_5061 : zst0 mi_P zw_5061 [] [] (fun d y as t en => zcal zw_5061 d y as t en zs_5061) zc_5061 zp_5061 zu_5061 408 = true := by decide +kernel
theorem zk_5061 : zu_5061.all (zck mi_P zc_5061.2.1 zw_5061 false [] [] (fun d y as t en => zcal zw_5061 d y as t en zs_5061) zc_5061.2.2.2.1.length zc_5061.2.2.2.1 zc_5061.2.2.2.2.2.1 zp_5061 zu_5061 408) = true := by decide +kernel
theorem zt_5061 {S : Nat × (Nat → Int32)} : zCtr mi_P S zTt zc_5061 := by
  have hc : ∀ c ∈ zs_5061, zCtr mi_P S zTt c := by
    intro c hc
    simp only [zs_5061, List.mem_cons, List.not_mem_nil, or_false] at hc
    rcases hc with rfl | rfl
    · exact zt_5060
    · exact zt_5005
  exact zCtr_of (Om := zTt) (ct := zc_5061) (ps := zp_5061) (fun _ _ _ _ => trivial) rfl hc za_5061 z0_5061 zk_5061
/-- L$Reader.readRelation(I)V -/
def zw_5062 : zW := .branch 16 (.branch 13 (.leaf (9, [1, 2, 5])) (.leaf (14, [1, 3]))) (.branch 22 (.leaf (17, [0])) (.leaf (23, [0, 1, 2, 3])))
def zp_5062 : List (zPo × List (Nat ⊕ (Nat × zL))) := [(([], [], [(8, [((1, []), zaI), ((2, []), zaI), ((5, []), .inr (.inr (.inr (.inl (0, 30)))))]), (13, [((1, []), zaI), ((3, []), .inr (.inr (.inr (.inl (0, 540)))))]), (16, []), (22, [((0, []), zaI), ((1, []), .inr (.inr (.inr (.inl (0, 1600))))), ((2, []), .inr (.inr (.inr (.inl (0, 1600))))), ((3, []), zaI)])], none), [])]
def zc_5062 : zCt := (42, 59, [.inr (.inl 8), .inl (0, [])], [], [], .branch 13 (.branch 8 (.leaf (8, 1, 1600, .inl ((-128), 127), [])) (.branch 9 (.leaf (9, 101, 8, .inr 3, [((0, []), .inr (.inl 9)), ((1, []), zaI), ((2, []), zaI), ((3, []), .inr (.inl 22)), ((5, []), .inr (.inr (.inr (.inl (0, 30)))))])) (.leaf (10, 102, 11, .inr 3, [((1, []), .inr (.inl 13))])))) (.branch 16 (.leaf (14, 104, 7, .inr 3, [((1, []), zaI), ((3, []), .inr (.inr (.inr (.inl (0, 540))))), ((5, []), .inr (.inl 16))])) (.branch 22 (.leaf (17, 0, 540, .inr 1, [])) (.leaf (23, 105, 6, .inr 3, [((0, []), zaI), ((1, []), .inr (.inr (.inr (.inl (0, 1600))))), ((2, []), .inr (.inr (.inr (.inl (0, 1600))))), ((3, []), zaI), ((4, []), .inr (.inl 7)), ((5, []), .inr (.inr (.inr (.inl (0, 1600)))))])))), zw_5062, [], zp_5062.map (fun p => p.1))
def zu_5062 : List zCu := []
def zs_5062 : List zCt := [zc_5061, zc_5005]
theorem za_5062 : zwin zw_5062 zc_5062.2.2.2.2.2.1 = true := by decide +kernel
theorem z0_5062 : zst0 mi_P zw_5062 [] [] (fun d y as t en => zcal zw_5062 d y as t en zs_5062) zc_5062 zp_5062 zu_5062 470 = true := by decide +kernel
theorem zk_5062 : zu_5062.all (zck mi_P zc_5062.2.1 zw_5062 false [] [] (fun d y as t en => zcal zw_5062 d y as t en zs_5062) zc_5062.2.2.2.1.length zc_5062.2.2.2.1 zc_5062.2.2.2.2.2.1 zp_5062 zu_5062 470) = true := by decide +kernel
theorem zt_5062 {S : Nat × (Nat → Int32)} : zCtr mi_P S zTt zc_5062 := by
  have hc : ∀ c ∈ zs_5062, zCtr mi_P S zTt c := by
    intro c hc
    simp only [zs_5062, List.mem_cons, List.not_mem_nil, or_false] at hc
    rcases hc with rfl | rfl
    · exact zt_5061
    · exact zt_5005
  exact zCtr_of (Om := zTt) (ct := zc_5062) (ps := zp_5062) (fun _ _ _ _ => trivial) rfl hc za_5062 z0_5062 zk_5062
/-- L$Reader.readOne(I)V -/
def zw_5063 : zW := .branch 16 (.branch 13 (.leaf (9, [1, 2, 5])) (.leaf (14, [1, 3]))) (.branch 22 (.leaf (17, [0])) (.leaf (23, [0, 1, 2, 3])))
def zp_5063 : List (zPo × List (Nat ⊕ (Nat × zL))) := [(([], [], [(8, [((1, []), zaI), ((2, []), zaI), ((5, []), .inr (.inr (.inr (.inl (0, 30)))))]), (13, [((1, []), zaI), ((3, []), .inr (.inr (.inr (.inl (0, 540)))))]), (16, []), (22, [((0, []), zaI), ((1, []), .inr (.inr (.inr (.inl (0, 1600))))), ((2, []), .inr (.inr (.inr (.inl (0, 1600))))), ((3, []), zaI)])], none), [])]
def zc_5063 : zCt := (41, 60, [.inr (.inl 8), .inl (0, [])], [], [], .branch 13 (.branch 8 (.leaf (8, 1, 1600, .inl ((-128), 127), [])) (.branch 9 (.leaf (9, 101, 8, .inr 3, [((0, []), .inr (.inl 9)), ((1, []), zaI), ((2, []), zaI), ((3, []), .inr (.inl 22)), ((5, []), .inr (.inr (.inr (.inl (0, 30)))))])) (.leaf (10, 102, 11, .inr 3, [((1, []), .inr (.inl 13))])))) (.branch 16 (.leaf (14, 104, 7, .inr 3, [((1, []), zaI), ((3, []), .inr (.inr (.inr (.inl (0, 540))))), ((5, []), .inr (.inl 16))])) (.branch 22 (.leaf (17, 0, 540, .inr 1, [])) (.leaf (23, 105, 6, .inr 3, [((0, []), zaI), ((1, []), .inr (.inr (.inr (.inl (0, 1600))))), ((2, []), .inr (.inr (.inr (.inl (0, 1600))))), ((3, []), zaI), ((4, []), .inr (.inl 7)), ((5, []), .inr (.inr (.inr (.inl (0, 1600)))))])))), zw_5063, [], zp_5063.map (fun p => p.1))
def zu_5063 : List zCu := []
def zs_5063 : List zCt := [zc_5005, zc_5056, zc_5062]
theorem za_5063 : zwin zw_5063 zc_5063.2.2.2.2.2.1 = true := by decide +kernel
theorem z0_5063 : zst0 mi_P zw_5063 [] [] (fun d y as t en => zcal zw_5063 d y as t en zs_5063) zc_5063 zp_5063 zu_5063 296 = true := by decide +kernel
theorem zk_5063 : zu_5063.all (zck mi_P zc_5063.2.1 zw_5063 false [] [] (fun d y as t en => zcal zw_5063 d y as t en zs_5063) zc_5063.2.2.2.1.length zc_5063.2.2.2.1 zc_5063.2.2.2.2.2.1 zp_5063 zu_5063 296) = true := by decide +kernel
theorem zt_5063 {S : Nat × (Nat → Int32)} : zCtr mi_P S zTt zc_5063 := by
  have hc : ∀ c ∈ zs_5063, zCtr mi_P S zTt c := by
    intro c hc
    simp only [zs_5063, List.mem_cons, List.not_mem_nil, or_false] at hc
    rcases hc with rfl | rfl | rfl
    · exact zt_5005
    · exact zt_5056
    · exact zt_5062
  exact zCtr_of (Om := zTt) (ct := zc_5063) (ps := zp_5063) (fun _ _ _ _ => trivial) rfl hc za_5063 z0_5063 zk_5063
/-- L$Reader.readAnds(I)V -/
def zw_5064 : zW := .branch 16 (.branch 13 (.leaf (9, [1, 2, 5])) (.leaf (14, [1, 3]))) (.branch 22 (.leaf (17, [0])) (.leaf (23, [0, 1, 2, 3])))
def zp_5064 : List (zPo × List (Nat ⊕ (Nat × zL))) := [(([], [], [(8, [((1, []), zaI), ((2, []), zaI), ((5, []), .inr (.inr (.inr (.inl (0, 30)))))]), (13, [((1, []), zaI), ((3, []), .inr (.inr (.inr (.inl (0, 540)))))]), (16, []), (22, [((0, []), zaI), ((1, []), .inr (.inr (.inr (.inl (0, 1600))))), ((2, []), .inr (.inr (.inr (.inl (0, 1600))))), ((3, []), zaI)])], none), [])]
def zc_5064 : zCt := (40, 61, [.inr (.inl 8), .inl (0, [])], [], [], .branch 13 (.branch 8 (.leaf (8, 1, 1600, .inl ((-128), 127), [])) (.branch 9 (.leaf (9, 101, 8, .inr 3, [((0, []), .inr (.inl 9)), ((1, []), zaI), ((2, []), zaI), ((3, []), .inr (.inl 22)), ((5, []), .inr (.inr (.inr (.inl (0, 30)))))])) (.leaf (10, 102, 11, .inr 3, [((1, []), .inr (.inl 13))])))) (.branch 16 (.leaf (14, 104, 7, .inr 3, [((1, []), zaI), ((3, []), .inr (.inr (.inr (.inl (0, 540))))), ((5, []), .inr (.inl 16))])) (.branch 22 (.leaf (17, 0, 540, .inr 1, [])) (.leaf (23, 105, 6, .inr 3, [((0, []), zaI), ((1, []), .inr (.inr (.inr (.inl (0, 1600))))), ((2, []), .inr (.inr (.inr (.inl (0, 1600))))), ((3, []), zaI), ((4, []), .inr (.inl 7)), ((5, []), .inr (.inr (.inr (.inl (0, 1600)))))])))), zw_5064, [], zp_5064.map (fun p => p.1))
def zu_5064 : List zCu := [(([(40, 5, [(2, .inl (0, [(0, 1)])), (0, .inr (.inl 8)), (1, .inl (0, []))], [])], .branch 13 (.branch 8 (.leaf (8, 1, 1600, .inl ((-128), 127), [])) (.branch 9 (.leaf (9, 101, 8, .inr 3, [((0, []), .inr (.inl 9)), ((3, []), .inr (.inl 22)), ((1, []), zaI), ((2, []), zaI), ((5, []), .inr (.inr (.inr (.inl (0, 30)))))])) (.leaf (10, 102, 11, .inr 3, [((1, []), .inr (.inl 13))])))) (.branch 16 (.leaf (14, 104, 7, .inr 3, [((5, []), .inr (.inl 16)), ((1, []), zaI), ((3, []), .inr (.inr (.inr (.inl (0, 540)))))])) (.branch 22 (.leaf (17, 0, 540, .inr 1, [])) (.leaf (23, 105, 6, .inr 3, [((4, []), .inr (.inl 7)), ((5, []), .inr (.inr (.inr (.inl (0, 1600))))), ((0, []), zaI), ((1, []), .inr (.inr (.inr (.inl (0, 1600))))), ((2, []), .inr (.inr (.inr (.inl (0, 1600))))), ((3, []), zaI)])))), [(0, 30)], [], []), [.inl (0, 2)], (30, [(0, (-1))]))]
def zs_5064 : List zCt := [zc_5063, zc_5005]
theorem za_5064 : zwin zw_5064 zc_5064.2.2.2.2.2.1 = true := by decide +kernel
theorem z0_5064 : zst0 mi_P zw_5064 [] [] (fun d y as t en => zcal zw_5064 d y as t en zs_5064) zc_5064 zp_5064 zu_5064 292 = true := by decide +kernel
theorem zk_5064 : zu_5064.all (zck mi_P zc_5064.2.1 zw_5064 false [] [] (fun d y as t en => zcal zw_5064 d y as t en zs_5064) zc_5064.2.2.2.1.length zc_5064.2.2.2.1 zc_5064.2.2.2.2.2.1 zp_5064 zu_5064 292) = true := by decide +kernel
theorem zt_5064 {S : Nat × (Nat → Int32)} : zCtr mi_P S zTt zc_5064 := by
  have hc : ∀ c ∈ zs_5064, zCtr mi_P S zTt c := by
    intro c hc
    simp only [zs_5064, List.mem_cons, List.not_mem_nil, or_false] at hc
    rcases hc with rfl | rfl
    · exact zt_5063
    · exact zt_5005
  exact zCtr_of (Om := zTt) (ct := zc_5064) (ps := zp_5064) (fun _ _ _ _ => trivial) rfl hc za_5064 z0_5064 zk_5064
/-- L$Reader.readOrs(I)V -/
def zw_5065 : zW := .branch 16 (.branch 13 (.leaf (9, [1, 2, 5])) (.leaf (14, [1, 3]))) (.branch 22 (.leaf (17, [0])) (.leaf (23, [0, 1, 2, 3])))
def zp_5065 : List (zPo × List (Nat ⊕ (Nat × zL))) := [(([], [], [(8, [((1, []), zaI), ((2, []), zaI), ((5, []), .inr (.inr (.inr (.inl (0, 30)))))]), (13, [((1, []), zaI), ((3, []), .inr (.inr (.inr (.inl (0, 540)))))]), (16, []), (22, [((0, []), zaI), ((1, []), .inr (.inr (.inr (.inl (0, 1600))))), ((2, []), .inr (.inr (.inr (.inl (0, 1600))))), ((3, []), zaI)])], none), [])]
def zc_5065 : zCt := (39, 62, [.inr (.inl 8), .inl (0, [])], [], [], .branch 13 (.branch 8 (.leaf (8, 1, 1600, .inl ((-128), 127), [])) (.branch 9 (.leaf (9, 101, 8, .inr 3, [((0, []), .inr (.inl 9)), ((1, []), zaI), ((2, []), zaI), ((3, []), .inr (.inl 22)), ((5, []), .inr (.inr (.inr (.inl (0, 30)))))])) (.leaf (10, 102, 11, .inr 3, [((1, []), .inr (.inl 13))])))) (.branch 16 (.leaf (14, 104, 7, .inr 3, [((1, []), zaI), ((3, []), .inr (.inr (.inr (.inl (0, 540))))), ((5, []), .inr (.inl 16))])) (.branch 22 (.leaf (17, 0, 540, .inr 1, [])) (.leaf (23, 105, 6, .inr 3, [((0, []), zaI), ((1, []), .inr (.inr (.inr (.inl (0, 1600))))), ((2, []), .inr (.inr (.inr (.inl (0, 1600))))), ((3, []), zaI), ((4, []), .inr (.inl 7)), ((5, []), .inr (.inr (.inr (.inl (0, 1600)))))])))), zw_5065, [], zp_5065.map (fun p => p.1))
def zu_5065 : List zCu := [(([(39, 5, [(2, .inl (0, [(0, 1)])), (0, .inr (.inl 8)), (1, .inl (0, []))], [])], .branch 13 (.branch 8 (.leaf (8, 1, 1600, .inl ((-128), 127), [])) (.branch 9 (.leaf (9, 101, 8, .inr 3, [((0, []), .inr (.inl 9)), ((3, []), .inr (.inl 22)), ((1, []), zaI), ((2, []), zaI), ((5, []), .inr (.inr (.inr (.inl (0, 30)))))])) (.leaf (10, 102, 11, .inr 3, [((1, []), .inr (.inl 13))])))) (.branch 16 (.leaf (14, 104, 7, .inr 3, [((5, []), .inr (.inl 16)), ((1, []), zaI), ((3, []), .inr (.inr (.inr (.inl (0, 540)))))])) (.branch 22 (.leaf (17, 0, 540, .inr 1, [])) (.leaf (23, 105, 6, .inr 3, [((4, []), .inr (.inl 7)), ((5, []), .inr (.inr (.inr (.inl (0, 1600))))), ((0, []), zaI), ((1, []), .inr (.inr (.inr (.inl (0, 1600))))), ((2, []), .inr (.inr (.inr (.inl (0, 1600))))), ((3, []), zaI)])))), [(0, 30)], [], []), [.inl (0, 2)], (30, [(0, (-1))]))]
def zs_5065 : List zCt := [zc_5064, zc_5005]
theorem za_5065 : zwin zw_5065 zc_5065.2.2.2.2.2.1 = true := by decide +kernel
theorem z0_5065 : zst0 mi_P zw_5065 [] [] (fun d y as t en => zcal zw_5065 d y as t en zs_5065) zc_5065 zp_5065 zu_5065 292 = true := by decide +kernel
theorem zk_5065 : zu_5065.all (zck mi_P zc_5065.2.1 zw_5065 false [] [] (fun d y as t en => zcal zw_5065 d y as t en zs_5065) zc_5065.2.2.2.1.length zc_5065.2.2.2.1 zc_5065.2.2.2.2.2.1 zp_5065 zu_5065 292) = true := by decide +kernel
theorem zt_5065 {S : Nat × (Nat → Int32)} : zCtr mi_P S zTt zc_5065 := by
  have hc : ∀ c ∈ zs_5065, zCtr mi_P S zTt c := by
    intro c hc
    simp only [zs_5065, List.mem_cons, List.not_mem_nil, or_false] at hc
    rcases hc with rfl | rfl
    · exact zt_5064
    · exact zt_5005
  exact zCtr_of (Om := zTt) (ct := zc_5065) (ps := zp_5065) (fun _ _ _ _ => trivial) rfl hc za_5065 z0_5065 zk_5065
/-- L$Reader.readName(I)V -/
def zw_5066 : zW := .branch 24 (.branch 22 (.leaf (9, [1, 2])) (.leaf (23, [0, 1, 2, 3]))) (.branch 25 (.leaf (25, [0])) (.leaf (26, [0])))
def zp_5066 : List (zPo × List (Nat ⊕ (Nat × zL))) := [(([], [], [(8, [((1, []), zaI), ((2, []), zaI)]), (22, [((0, []), zaI), ((1, []), .inr (.inr (.inr (.inl (0, 1600))))), ((2, []), .inr (.inr (.inr (.inl (0, 1600))))), ((3, []), zaI)]), (24, []), (25, [])], none), [])]
def zc_5066 : zCt := (36, 7, [.inr (.inl 8), .inr (.inr (.inr (.inl (0, 3))))], [], [], .branch 22 (.branch 8 (.leaf (8, 1, 1600, .inl ((-128), 127), [])) (.leaf (9, 101, 8, .inr 3, [((1, []), zaI), ((2, []), zaI), ((3, []), .inr (.inl 22)), ((6, []), .inr (.inl 24)), ((7, []), .inr (.inl 25))]))) (.branch 24 (.leaf (23, 105, 6, .inr 3, [((0, []), zaI), ((1, []), .inr (.inr (.inr (.inl (0, 1600))))), ((2, []), .inr (.inr (.inr (.inl (0, 1600))))), ((3, []), zaI), ((4, []), .inr (.inl 7)), ((5, []), .inr (.inr (.inr (.inl (0, 1600)))))])) (.branch 25 (.leaf (25, 0, 4, .inl (0, 1600), [])) (.leaf (26, 0, 4, .inl (0, 1600), [])))), zw_5066, [], zp_5066.map (fun p => p.1))
def zu_5066 : List zCu := [(([(36, 10, [(2, .inl (0, [(1, 1)])), (0, .inr (.inl 8)), (1, .inl (0, [(0, 1)]))], [])], .branch 22 (.branch 8 (.leaf (8, 1, 1600, .inl ((-128), 127), [])) (.leaf (9, 101, 8, .inr 3, [((1, []), zaI), ((2, []), zaI), ((3, []), .inr (.inl 22)), ((6, []), .inr (.inl 24)), ((7, []), .inr (.inl 25))]))) (.branch 24 (.leaf (23, 105, 6, .inr 3, [((1, []), .inr (.inr (.inr (.inl (0, 1600))))), ((2, []), .inr (.inr (.inr (.inl (0, 1600))))), ((3, []), zaI), ((4, []), .inr (.inl 7)), ((5, []), .inr (.inr (.inr (.inl (0, 1600))))), ((0, []), .inr (.inr (.inr (.inl (3, 3)))))])) (.branch 25 (.leaf (25, 0, 4, .inl (0, 1600), [])) (.leaf (26, 0, 4, .inl (0, 1600), [])))), [(0, 3), (0, 3)], [], []), [.inl (0, 1), .inl (0, 2)], (3, [(1, (-1))]))]
def zs_5066 : List zCt := [zc_5007, zc_5005, zc_5006]
theorem za_5066 : zwin zw_5066 zc_5066.2.2.2.2.2.1 = true := by decide +kernel
theorem z0_5066 : zst0 mi_P zw_5066 [] [] (fun d y as t en => zcal zw_5066 d y as t en zs_5066) zc_5066 zp_5066 zu_5066 274 = true := by decide +kernel
theorem zk_5066 : zu_5066.all (zck mi_P zc_5066.2.1 zw_5066 false [] [] (fun d y as t en => zcal zw_5066 d y as t en zs_5066) zc_5066.2.2.2.1.length zc_5066.2.2.2.1 zc_5066.2.2.2.2.2.1 zp_5066 zu_5066 274) = true := by decide +kernel
theorem zt_5066 {S : Nat × (Nat → Int32)} : zCtr mi_P S zTt zc_5066 := by
  have hc : ∀ c ∈ zs_5066, zCtr mi_P S zTt c := by
    intro c hc
    simp only [zs_5066, List.mem_cons, List.not_mem_nil, or_false] at hc
    rcases hc with rfl | rfl | rfl
    · exact zt_5007
    · exact zt_5005
    · exact zt_5006
  exact zCtr_of (Om := zTt) (ct := zc_5066) (ps := zp_5066) (fun _ _ _ _ => trivial) rfl hc za_5066 z0_5066 zk_5066
/-- L$Reader.readSort(I)V -/
def zw_5067 : zW := .branch 16 (.branch 13 (.branch 9 (.leaf (9, [1, 2, 5])) (.leaf (10, [5]))) (.branch 15 (.leaf (14, [1, 2, 3])) (.leaf (16, [0])))) (.branch 22 (.branch 18 (.leaf (17, [0])) (.leaf (19, [0]))) (.branch 24 (.leaf (23, [0, 1, 2, 3])) (.branch 25 (.leaf (25, [0])) (.leaf (26, [0])))))
def zp_5067 : List (zPo × List (Nat ⊕ (Nat × zL))) := [(([], [], [(8, [((1, []), zaI), ((2, []), zaI), ((5, []), .inr (.inr (.inr (.inl (0, 30)))))]), (9, [((5, []), .inr (.inr (.inr (.inl (0, 4)))))]), (13, [((1, []), zaI), ((2, []), .inr (.inr (.inr (.inl (0, 4))))), ((3, []), .inr (.inr (.inr (.inl (0, 540)))))]), (15, []), (16, []), (18, []), (22, [((0, []), zaI), ((1, []), .inr (.inr (.inr (.inl (0, 1600))))), ((2, []), .inr (.inr (.inr (.inl (0, 1600))))), ((3, []), zaI)]), (24, []), (25, [])], none), [])]
def zc_5067 : zCt := (35, 63, [.inr (.inl 8), .inr (.inr (.inr (.inl (0, 3))))], [], [], .branch 16 (.branch 9 (.branch 8 (.leaf (8, 1, 1600, .inl ((-128), 127), [])) (.leaf (9, 101, 8, .inr 3, [((0, []), .inr (.inl 9)), ((1, []), zaI), ((2, []), zaI), ((3, []), .inr (.inl 22)), ((5, []), .inr (.inr (.inr (.inl (0, 30))))), ((6, []), .inr (.inl 24)), ((7, []), .inr (.inl 25))]))) (.branch 13 (.leaf (10, 102, 11, .inr 3, [((1, []), .inr (.inl 13)), ((5, []), .inr (.inr (.inr (.inl (0, 4))))), ((6, []), .inr (.inl 18))])) (.branch 15 (.leaf (14, 104, 7, .inr 3, [((1, []), zaI), ((2, []), .inr (.inr (.inr (.inl (0, 4))))), ((3, []), .inr (.inr (.inr (.inl (0, 540))))), ((4, []), .inr (.inl 15)), ((5, []), .inr (.inl 16))])) (.leaf (16, 0, 5, .inl (0, 540), []))))) (.branch 22 (.branch 18 (.leaf (17, 0, 540, .inr 1, [])) (.leaf (19, 0, 4, .inl ((-2147483648), 2147483647), []))) (.branch 24 (.leaf (23, 105, 6, .inr 3, [((0, []), zaI), ((1, []), .inr (.inr (.inr (.inl (0, 1600))))), ((2, []), .inr (.inr (.inr (.inl (0, 1600))))), ((3, []), zaI), ((4, []), .inr (.inl 7)), ((5, []), .inr (.inr (.inr (.inl (0, 1600)))))])) (.branch 25 (.leaf (25, 0, 4, .inl (0, 1600), [])) (.leaf (26, 0, 4, .inl (0, 1600), []))))), zw_5067, [], zp_5067.map (fun p => p.1))
def zu_5067 : List zCu := []
def zs_5067 : List zCt := [zc_5066, zc_5008, zc_5009, zc_5065]
theorem za_5067 : zwin zw_5067 zc_5067.2.2.2.2.2.1 = true := by decide +kernel
theorem z0_5067 : zst0 mi_P zw_5067 [] [] (fun d y as t en => zcal zw_5067 d y as t en zs_5067) zc_5067 zp_5067 zu_5067 318 = true := by decide +kernel
theorem zk_5067 : zu_5067.all (zck mi_P zc_5067.2.1 zw_5067 false [] [] (fun d y as t en => zcal zw_5067 d y as t en zs_5067) zc_5067.2.2.2.1.length zc_5067.2.2.2.1 zc_5067.2.2.2.2.2.1 zp_5067 zu_5067 318) = true := by decide +kernel
theorem zt_5067 {S : Nat × (Nat → Int32)} : zCtr mi_P S zTt zc_5067 := by
  have hc : ∀ c ∈ zs_5067, zCtr mi_P S zTt c := by
    intro c hc
    simp only [zs_5067, List.mem_cons, List.not_mem_nil, or_false] at hc
    rcases hc with rfl | rfl | rfl | rfl
    · exact zt_5066
    · exact zt_5008
    · exact zt_5009
    · exact zt_5065
  exact zCtr_of (Om := zTt) (ct := zc_5067) (ps := zp_5067) (fun _ _ _ _ => trivial) rfl hc za_5067 z0_5067 zk_5067
