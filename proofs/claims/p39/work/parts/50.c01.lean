/-- L$Reader.readUnit(I)V -/
def zw_24 : zW := .branch 16 (.branch 13 (.leaf (9, [1, 2, 5])) (.leaf (14, [1, 3]))) (.branch 22 (.leaf (17, [0])) (.leaf (23, [0, 1, 2, 3])))
def zp_24 : List (zPo × List (Nat ⊕ (Nat × zL))) := [(([], [], [(8, [((1, []), zaI), ((2, []), zaI), ((5, []), .inr (.inr (.inr (.inl (0, 30)))))]), (13, [((1, []), zaI), ((3, []), .inr (.inr (.inr (.inl (0, 540)))))]), (16, []), (22, [((0, []), zaI), ((1, []), .inr (.inr (.inr (.inl (0, 1600))))), ((2, []), .inr (.inr (.inr (.inl (0, 1600))))), ((3, []), zaI)])], none), [])]
def zc_24 : zCt := (45, 21, [.inr (.inl 8), .inl (5, [])], [], [], .branch 13 (.branch 8 (.leaf (8, 1, 1600, .inl ((-128), 127), [])) (.branch 9 (.leaf (9, 101, 8, .inr 3, [((0, []), .inr (.inl 9)), ((1, []), zaI), ((2, []), zaI), ((3, []), .inr (.inl 22)), ((5, []), .inr (.inr (.inr (.inl (0, 30)))))])) (.leaf (10, 102, 11, .inr 3, [((1, []), .inr (.inl 13))])))) (.branch 16 (.leaf (14, 104, 7, .inr 3, [((1, []), zaI), ((3, []), .inr (.inr (.inr (.inl (0, 540))))), ((5, []), .inr (.inl 16))])) (.branch 22 (.leaf (17, 0, 540, .inr 1, [])) (.leaf (23, 105, 6, .inr 3, [((0, []), zaI), ((1, []), .inr (.inr (.inr (.inl (0, 1600))))), ((2, []), .inr (.inr (.inr (.inl (0, 1600))))), ((3, []), zaI), ((4, []), .inr (.inl 7)), ((5, []), .inr (.inr (.inr (.inl (0, 1600)))))])))), zw_24, [], zp_24.map (fun p => p.1))
def zu_24 : List zCu := []
def zs_24 : List zCt := [zc_7, zc_5, zc_23]
theorem za_24 : zwin zw_24 zc_24.2.2.2.2.2.1 = true := by decide +kernel
theorem z0_24 : zst0 mi_P zw_24 [] [] (fun d y as t en => zcal zw_24 d y as t en zs_24) zc_24 zp_24 zu_24 916 = true := by decide +kernel
theorem zk_24 : zu_24.all (zck mi_P zc_24.2.1 zw_24 false [] [] (fun d y as t en => zcal zw_24 d y as t en zs_24) zc_24.2.2.2.1.length zc_24.2.2.2.1 zc_24.2.2.2.2.2.1 zp_24 zu_24 916) = true := by decide +kernel
theorem zt_24 {S : Nat × (Nat → Int32)} : zCtr mi_P S zTt zc_24 := by
  have hc : ∀ c ∈ zs_24, zCtr mi_P S zTt c := by
    intro c hc
    simp only [zs_24, List.mem_cons, List.not_mem_nil, or_false] at hc
    rcases hc with rfl | rfl | rfl
    · exact zt_7
    · exact zt_5
    · exact zt_23
  exact zCtr_of (Om := zTt) (ct := zc_24) (ps := zp_24) (fun _ _ _ _ => trivial) rfl hc za_24 z0_24 zk_24
/-- L$Reader.readTerm(I)V -/
def zw_25 : zW := .branch 16 (.branch 13 (.leaf (9, [1, 2, 5])) (.leaf (14, [1, 3]))) (.branch 22 (.leaf (17, [0])) (.leaf (23, [0, 1, 2, 3])))
def zp_25 : List (zPo × List (Nat ⊕ (Nat × zL))) := [(([], [], [(8, [((1, []), zaI), ((2, []), zaI), ((5, []), .inr (.inr (.inr (.inl (0, 30)))))]), (13, [((1, []), zaI), ((3, []), .inr (.inr (.inr (.inl (0, 540)))))]), (16, []), (22, [((0, []), zaI), ((1, []), .inr (.inr (.inr (.inl (0, 1600))))), ((2, []), .inr (.inr (.inr (.inl (0, 1600))))), ((3, []), zaI)])], none), [])]
def zc_25 : zCt := (44, 22, [.inr (.inl 8), .inl (5, [])], [], [], .branch 13 (.branch 8 (.leaf (8, 1, 1600, .inl ((-128), 127), [])) (.branch 9 (.leaf (9, 101, 8, .inr 3, [((0, []), .inr (.inl 9)), ((1, []), zaI), ((2, []), zaI), ((3, []), .inr (.inl 22)), ((5, []), .inr (.inr (.inr (.inl (0, 30)))))])) (.leaf (10, 102, 11, .inr 3, [((1, []), .inr (.inl 13))])))) (.branch 16 (.leaf (14, 104, 7, .inr 3, [((1, []), zaI), ((3, []), .inr (.inr (.inr (.inl (0, 540))))), ((5, []), .inr (.inl 16))])) (.branch 22 (.leaf (17, 0, 540, .inr 1, [])) (.leaf (23, 105, 6, .inr 3, [((0, []), zaI), ((1, []), .inr (.inr (.inr (.inl (0, 1600))))), ((2, []), .inr (.inr (.inr (.inl (0, 1600))))), ((3, []), zaI), ((4, []), .inr (.inl 7)), ((5, []), .inr (.inr (.inr (.inl (0, 1600)))))])))), zw_25, [], zp_25.map (fun p => p.1))
def zu_25 : List zCu := [(([(44, 5, [(2, .inl (0, [(0, 1)])), (0, .inr (.inl 8)), (1, .inl (5, []))], [])], .branch 13 (.branch 8 (.leaf (8, 1, 1600, .inl ((-128), 127), [])) (.branch 9 (.leaf (9, 101, 8, .inr 3, [((0, []), .inr (.inl 9)), ((3, []), .inr (.inl 22)), ((1, []), zaI), ((2, []), zaI), ((5, []), .inr (.inr (.inr (.inl (0, 30)))))])) (.leaf (10, 102, 11, .inr 3, [((1, []), .inr (.inl 13))])))) (.branch 16 (.leaf (14, 104, 7, .inr 3, [((5, []), .inr (.inl 16)), ((1, []), zaI), ((3, []), .inr (.inr (.inr (.inl (0, 540)))))])) (.branch 22 (.leaf (17, 0, 540, .inr 1, [])) (.leaf (23, 105, 6, .inr 3, [((4, []), .inr (.inl 7)), ((5, []), .inr (.inr (.inr (.inl (0, 1600))))), ((0, []), zaI), ((1, []), .inr (.inr (.inr (.inl (0, 1600))))), ((2, []), .inr (.inr (.inr (.inl (0, 1600))))), ((3, []), zaI)])))), [(0, 30)], [], []), [.inl (0, 2)], (30, [(0, (-1))]))]
def zs_25 : List zCt := [zc_24, zc_5]
theorem za_25 : zwin zw_25 zc_25.2.2.2.2.2.1 = true := by decide +kernel
theorem z0_25 : zst0 mi_P zw_25 [] [] (fun d y as t en => zcal zw_25 d y as t en zs_25) zc_25 zp_25 zu_25 548 = true := by decide +kernel
theorem zk_25 : zu_25.all (zck mi_P zc_25.2.1 zw_25 false [] [] (fun d y as t en => zcal zw_25 d y as t en zs_25) zc_25.2.2.2.1.length zc_25.2.2.2.1 zc_25.2.2.2.2.2.1 zp_25 zu_25 548) = true := by decide +kernel
theorem zt_25 {S : Nat × (Nat → Int32)} : zCtr mi_P S zTt zc_25 := by
  have hc : ∀ c ∈ zs_25, zCtr mi_P S zTt c := by
    intro c hc
    simp only [zs_25, List.mem_cons, List.not_mem_nil, or_false] at hc
    rcases hc with rfl | rfl
    · exact zt_24
    · exact zt_5
  exact zCtr_of (Om := zTt) (ct := zc_25) (ps := zp_25) (fun _ _ _ _ => trivial) rfl hc za_25 z0_25 zk_25
/-- L$Reader.readSum(I)V -/
def zw_26 : zW := .branch 16 (.branch 13 (.leaf (9, [1, 2, 5])) (.leaf (14, [1, 3]))) (.branch 22 (.leaf (17, [0])) (.leaf (23, [0, 1, 2, 3])))
def zp_26 : List (zPo × List (Nat ⊕ (Nat × zL))) := [(([], [], [(8, [((1, []), zaI), ((2, []), zaI), ((5, []), .inr (.inr (.inr (.inl (0, 30)))))]), (13, [((1, []), zaI), ((3, []), .inr (.inr (.inr (.inl (0, 540)))))]), (16, []), (22, [((0, []), zaI), ((1, []), .inr (.inr (.inr (.inl (0, 1600))))), ((2, []), .inr (.inr (.inr (.inl (0, 1600))))), ((3, []), zaI)])], none), [])]
def zc_26 : zCt := (43, 23, [.inr (.inl 8), .inl (5, [])], [], [], .branch 13 (.branch 8 (.leaf (8, 1, 1600, .inl ((-128), 127), [])) (.branch 9 (.leaf (9, 101, 8, .inr 3, [((0, []), .inr (.inl 9)), ((1, []), zaI), ((2, []), zaI), ((3, []), .inr (.inl 22)), ((5, []), .inr (.inr (.inr (.inl (0, 30)))))])) (.leaf (10, 102, 11, .inr 3, [((1, []), .inr (.inl 13))])))) (.branch 16 (.leaf (14, 104, 7, .inr 3, [((1, []), zaI), ((3, []), .inr (.inr (.inr (.inl (0, 540))))), ((5, []), .inr (.inl 16))])) (.branch 22 (.leaf (17, 0, 540, .inr 1, [])) (.leaf (23, 105, 6, .inr 3, [((0, []), zaI), ((1, []), .inr (.inr (.inr (.inl (0, 1600))))), ((2, []), .inr (.inr (.inr (.inl (0, 1600))))), ((3, []), zaI), ((4, []), .inr (.inl 7)), ((5, []), .inr (.inr (.inr (.inl (0, 1600)))))])))), zw_26, [], zp_26.map (fun p => p.1))
def zu_26 : List zCu := [(([(43, 5, [(2, .inl (0, [(0, 1)])), (0, .inr (.inl 8)), (1, .inl (5, []))], [])], .branch 13 (.branch 8 (.leaf (8, 1, 1600, .inl ((-128), 127), [])) (.branch 9 (.leaf (9, 101, 8, .inr 3, [((0, []), .inr (.inl 9)), ((3, []), .inr (.inl 22)), ((1, []), zaI), ((2, []), zaI), ((5, []), .inr (.inr (.inr (.inl (0, 30)))))])) (.leaf (10, 102, 11, .inr 3, [((1, []), .inr (.inl 13))])))) (.branch 16 (.leaf (14, 104, 7, .inr 3, [((5, []), .inr (.inl 16)), ((1, []), zaI), ((3, []), .inr (.inr (.inr (.inl (0, 540)))))])) (.branch 22 (.leaf (17, 0, 540, .inr 1, [])) (.leaf (23, 105, 6, .inr 3, [((4, []), .inr (.inl 7)), ((5, []), .inr (.inr (.inr (.inl (0, 1600))))), ((0, []), zaI), ((1, []), .inr (.inr (.inr (.inl (0, 1600))))), ((2, []), .inr (.inr (.inr (.inl (0, 1600))))), ((3, []), zaI)])))), [(0, 30)], [], []), [.inl (0, 2)], (30, [(0, (-1))]))]
def zs_26 : List zCt := [zc_25, zc_5]
theorem za_26 : zwin zw_26 zc_26.2.2.2.2.2.1 = true := by decide +kernel
theorem z0_26 : zst0 mi_P zw_26 [] [] (fun d y as t en => zcal zw_26 d y as t en zs_26) zc_26 zp_26 zu_26 408 = true := by decide +kernel
theorem zk_26 : zu_26.all (zck mi_P zc_26.2.1 zw_26 false [] [] (fun d y as t en => zcal zw_26 d y as t en zs_26) zc_26.2.2.2.1.length zc_26.2.2.2.1 zc_26.2.2.2.2.2.1 zp_26 zu_26 408) = true := by decide +kernel
theorem zt_26 {S : Nat × (Nat → Int32)} : zCtr mi_P S zTt zc_26 := by
  have hc : ∀ c ∈ zs_26, zCtr mi_P S zTt c := by
    intro c hc
    simp only [zs_26, List.mem_cons, List.not_mem_nil, or_false] at hc
    rcases hc with rfl | rfl
    · exact zt_25
    · exact zt_5
  exact zCtr_of (Om := zTt) (ct := zc_26) (ps := zp_26) (fun _ _ _ _ => trivial) rfl hc za_26 z0_26 zk_26
/-- L$Reader.readRelation(I)V -/
def zw_27 : zW := .branch 16 (.branch 13 (.leaf (9, [1, 2, 5])) (.leaf (14, [1, 3]))) (.branch 22 (.leaf (17, [0])) (.leaf (23, [0, 1, 2, 3])))
def zp_27 : List (zPo × List (Nat ⊕ (Nat × zL))) := [(([], [], [(8, [((1, []), zaI), ((2, []), zaI), ((5, []), .inr (.inr (.inr (.inl (0, 30)))))]), (13, [((1, []), zaI), ((3, []), .inr (.inr (.inr (.inl (0, 540)))))]), (16, []), (22, [((0, []), zaI), ((1, []), .inr (.inr (.inr (.inl (0, 1600))))), ((2, []), .inr (.inr (.inr (.inl (0, 1600))))), ((3, []), zaI)])], none), [])]
def zc_27 : zCt := (42, 24, [.inr (.inl 8), .inl (5, [])], [], [], .branch 13 (.branch 8 (.leaf (8, 1, 1600, .inl ((-128), 127), [])) (.branch 9 (.leaf (9, 101, 8, .inr 3, [((0, []), .inr (.inl 9)), ((1, []), zaI), ((2, []), zaI), ((3, []), .inr (.inl 22)), ((5, []), .inr (.inr (.inr (.inl (0, 30)))))])) (.leaf (10, 102, 11, .inr 3, [((1, []), .inr (.inl 13))])))) (.branch 16 (.leaf (14, 104, 7, .inr 3, [((1, []), zaI), ((3, []), .inr (.inr (.inr (.inl (0, 540))))), ((5, []), .inr (.inl 16))])) (.branch 22 (.leaf (17, 0, 540, .inr 1, [])) (.leaf (23, 105, 6, .inr 3, [((0, []), zaI), ((1, []), .inr (.inr (.inr (.inl (0, 1600))))), ((2, []), .inr (.inr (.inr (.inl (0, 1600))))), ((3, []), zaI), ((4, []), .inr (.inl 7)), ((5, []), .inr (.inr (.inr (.inl (0, 1600)))))])))), zw_27, [], zp_27.map (fun p => p.1))
def zu_27 : List zCu := []
def zs_27 : List zCt := [zc_26, zc_5]
theorem za_27 : zwin zw_27 zc_27.2.2.2.2.2.1 = true := by decide +kernel
theorem z0_27 : zst0 mi_P zw_27 [] [] (fun d y as t en => zcal zw_27 d y as t en zs_27) zc_27 zp_27 zu_27 470 = true := by decide +kernel
theorem zk_27 : zu_27.all (zck mi_P zc_27.2.1 zw_27 false [] [] (fun d y as t en => zcal zw_27 d y as t en zs_27) zc_27.2.2.2.1.length zc_27.2.2.2.1 zc_27.2.2.2.2.2.1 zp_27 zu_27 470) = true := by decide +kernel
theorem zt_27 {S : Nat × (Nat → Int32)} : zCtr mi_P S zTt zc_27 := by
  have hc : ∀ c ∈ zs_27, zCtr mi_P S zTt c := by
    intro c hc
    simp only [zs_27, List.mem_cons, List.not_mem_nil, or_false] at hc
    rcases hc with rfl | rfl
    · exact zt_26
    · exact zt_5
  exact zCtr_of (Om := zTt) (ct := zc_27) (ps := zp_27) (fun _ _ _ _ => trivial) rfl hc za_27 z0_27 zk_27
/-- L$Reader.readOne(I)V -/
def zw_28 : zW := .branch 16 (.branch 13 (.leaf (9, [1, 2, 5])) (.leaf (14, [1, 3]))) (.branch 22 (.leaf (17, [0])) (.leaf (23, [0, 1, 2, 3])))
def zp_28 : List (zPo × List (Nat ⊕ (Nat × zL))) := [(([], [], [(8, [((1, []), zaI), ((2, []), zaI), ((5, []), .inr (.inr (.inr (.inl (0, 30)))))]), (13, [((1, []), zaI), ((3, []), .inr (.inr (.inr (.inl (0, 540)))))]), (16, []), (22, [((0, []), zaI), ((1, []), .inr (.inr (.inr (.inl (0, 1600))))), ((2, []), .inr (.inr (.inr (.inl (0, 1600))))), ((3, []), zaI)])], none), [])]
def zc_28 : zCt := (41, 25, [.inr (.inl 8), .inl (5, [])], [], [], .branch 13 (.branch 8 (.leaf (8, 1, 1600, .inl ((-128), 127), [])) (.branch 9 (.leaf (9, 101, 8, .inr 3, [((0, []), .inr (.inl 9)), ((1, []), zaI), ((2, []), zaI), ((3, []), .inr (.inl 22)), ((5, []), .inr (.inr (.inr (.inl (0, 30)))))])) (.leaf (10, 102, 11, .inr 3, [((1, []), .inr (.inl 13))])))) (.branch 16 (.leaf (14, 104, 7, .inr 3, [((1, []), zaI), ((3, []), .inr (.inr (.inr (.inl (0, 540))))), ((5, []), .inr (.inl 16))])) (.branch 22 (.leaf (17, 0, 540, .inr 1, [])) (.leaf (23, 105, 6, .inr 3, [((0, []), zaI), ((1, []), .inr (.inr (.inr (.inl (0, 1600))))), ((2, []), .inr (.inr (.inr (.inl (0, 1600))))), ((3, []), zaI), ((4, []), .inr (.inl 7)), ((5, []), .inr (.inr (.inr (.inl (0, 1600)))))])))), zw_28, [], zp_28.map (fun p => p.1))
def zu_28 : List zCu := []
def zs_28 : List zCt := [zc_5, zc_21, zc_27]
theorem za_28 : zwin zw_28 zc_28.2.2.2.2.2.1 = true := by decide +kernel
theorem z0_28 : zst0 mi_P zw_28 [] [] (fun d y as t en => zcal zw_28 d y as t en zs_28) zc_28 zp_28 zu_28 296 = true := by decide +kernel
theorem zk_28 : zu_28.all (zck mi_P zc_28.2.1 zw_28 false [] [] (fun d y as t en => zcal zw_28 d y as t en zs_28) zc_28.2.2.2.1.length zc_28.2.2.2.1 zc_28.2.2.2.2.2.1 zp_28 zu_28 296) = true := by decide +kernel
theorem zt_28 {S : Nat × (Nat → Int32)} : zCtr mi_P S zTt zc_28 := by
  have hc : ∀ c ∈ zs_28, zCtr mi_P S zTt c := by
    intro c hc
    simp only [zs_28, List.mem_cons, List.not_mem_nil, or_false] at hc
    rcases hc with rfl | rfl | rfl
    · exact zt_5
    · exact zt_21
    · exact zt_27
  exact zCtr_of (Om := zTt) (ct := zc_28) (ps := zp_28) (fun _ _ _ _ => trivial) rfl hc za_28 z0_28 zk_28
/-- L$Reader.readAnds(I)V -/
def zw_29 : zW := .branch 16 (.branch 13 (.leaf (9, [1, 2, 5])) (.leaf (14, [1, 3]))) (.branch 22 (.leaf (17, [0])) (.leaf (23, [0, 1, 2, 3])))
def zp_29 : List (zPo × List (Nat ⊕ (Nat × zL))) := [(([], [], [(8, [((1, []), zaI), ((2, []), zaI), ((5, []), .inr (.inr (.inr (.inl (0, 30)))))]), (13, [((1, []), zaI), ((3, []), .inr (.inr (.inr (.inl (0, 540)))))]), (16, []), (22, [((0, []), zaI), ((1, []), .inr (.inr (.inr (.inl (0, 1600))))), ((2, []), .inr (.inr (.inr (.inl (0, 1600))))), ((3, []), zaI)])], none), [])]
def zc_29 : zCt := (40, 26, [.inr (.inl 8), .inl (5, [])], [], [], .branch 13 (.branch 8 (.leaf (8, 1, 1600, .inl ((-128), 127), [])) (.branch 9 (.leaf (9, 101, 8, .inr 3, [((0, []), .inr (.inl 9)), ((1, []), zaI), ((2, []), zaI), ((3, []), .inr (.inl 22)), ((5, []), .inr (.inr (.inr (.inl (0, 30)))))])) (.leaf (10, 102, 11, .inr 3, [((1, []), .inr (.inl 13))])))) (.branch 16 (.leaf (14, 104, 7, .inr 3, [((1, []), zaI), ((3, []), .inr (.inr (.inr (.inl (0, 540))))), ((5, []), .inr (.inl 16))])) (.branch 22 (.leaf (17, 0, 540, .inr 1, [])) (.leaf (23, 105, 6, .inr 3, [((0, []), zaI), ((1, []), .inr (.inr (.inr (.inl (0, 1600))))), ((2, []), .inr (.inr (.inr (.inl (0, 1600))))), ((3, []), zaI), ((4, []), .inr (.inl 7)), ((5, []), .inr (.inr (.inr (.inl (0, 1600)))))])))), zw_29, [], zp_29.map (fun p => p.1))
def zu_29 : List zCu := [(([(40, 5, [(2, .inl (0, [(0, 1)])), (0, .inr (.inl 8)), (1, .inl (5, []))], [])], .branch 13 (.branch 8 (.leaf (8, 1, 1600, .inl ((-128), 127), [])) (.branch 9 (.leaf (9, 101, 8, .inr 3, [((0, []), .inr (.inl 9)), ((3, []), .inr (.inl 22)), ((1, []), zaI), ((2, []), zaI), ((5, []), .inr (.inr (.inr (.inl (0, 30)))))])) (.leaf (10, 102, 11, .inr 3, [((1, []), .inr (.inl 13))])))) (.branch 16 (.leaf (14, 104, 7, .inr 3, [((5, []), .inr (.inl 16)), ((1, []), zaI), ((3, []), .inr (.inr (.inr (.inl (0, 540)))))])) (.branch 22 (.leaf (17, 0, 540, .inr 1, [])) (.leaf (23, 105, 6, .inr 3, [((4, []), .inr (.inl 7)), ((5, []), .inr (.inr (.inr (.inl (0, 1600))))), ((0, []), zaI), ((1, []), .inr (.inr (.inr (.inl (0, 1600))))), ((2, []), .inr (.inr (.inr (.inl (0, 1600))))), ((3, []), zaI)])))), [(0, 30)], [], []), [.inl (0, 2)], (30, [(0, (-1))]))]
def zs_29 : List zCt := [zc_28, zc_5]
theorem za_29 : zwin zw_29 zc_29.2.2.2.2.2.1 = true := by decide +kernel
theorem z0_29 : zst0 mi_P zw_29 [] [] (fun d y as t en => zcal zw_29 d y as t en zs_29) zc_29 zp_29 zu_29 292 = true := by decide +kernel
theorem zk_29 : zu_29.all (zck mi_P zc_29.2.1 zw_29 false [] [] (fun d y as t en => zcal zw_29 d y as t en zs_29) zc_29.2.2.2.1.length zc_29.2.2.2.1 zc_29.2.2.2.2.2.1 zp_29 zu_29 292) = true := by decide +kernel
theorem zt_29 {S : Nat × (Nat → Int32)} : zCtr mi_P S zTt zc_29 := by
  have hc : ∀ c ∈ zs_29, zCtr mi_P S zTt c := by
    intro c hc
    simp only [zs_29, List.mem_cons, List.not_mem_nil, or_false] at hc
    rcases hc with rfl | rfl
    · exact zt_28
    · exact zt_5
  exact zCtr_of (Om := zTt) (ct := zc_29) (ps := zp_29) (fun _ _ _ _ => trivial) rfl hc za_29 z0_29 zk_29
/-- L$Reader.readOrs(I)V -/
def zw_30 : zW := .branch 16 (.branch 13 (.leaf (9, [1, 2, 5])) (.leaf (14, [1, 3]))) (.branch 22 (.leaf (17, [0])) (.leaf (23, [0, 1, 2, 3])))
def zp_30 : List (zPo × List (Nat ⊕ (Nat × zL))) := [(([], [], [(8, [((1, []), zaI), ((2, []), zaI), ((5, []), .inr (.inr (.inr (.inl (0, 30)))))]), (13, [((1, []), zaI), ((3, []), .inr (.inr (.inr (.inl (0, 540)))))]), (16, []), (22, [((0, []), zaI), ((1, []), .inr (.inr (.inr (.inl (0, 1600))))), ((2, []), .inr (.inr (.inr (.inl (0, 1600))))), ((3, []), zaI)])], none), [])]
def zc_30 : zCt := (39, 27, [.inr (.inl 8), .inl (5, [])], [], [], .branch 13 (.branch 8 (.leaf (8, 1, 1600, .inl ((-128), 127), [])) (.branch 9 (.leaf (9, 101, 8, .inr 3, [((0, []), .inr (.inl 9)), ((1, []), zaI), ((2, []), zaI), ((3, []), .inr (.inl 22)), ((5, []), .inr (.inr (.inr (.inl (0, 30)))))])) (.leaf (10, 102, 11, .inr 3, [((1, []), .inr (.inl 13))])))) (.branch 16 (.leaf (14, 104, 7, .inr 3, [((1, []), zaI), ((3, []), .inr (.inr (.inr (.inl (0, 540))))), ((5, []), .inr (.inl 16))])) (.branch 22 (.leaf (17, 0, 540, .inr 1, [])) (.leaf (23, 105, 6, .inr 3, [((0, []), zaI), ((1, []), .inr (.inr (.inr (.inl (0, 1600))))), ((2, []), .inr (.inr (.inr (.inl (0, 1600))))), ((3, []), zaI), ((4, []), .inr (.inl 7)), ((5, []), .inr (.inr (.inr (.inl (0, 1600)))))])))), zw_30, [], zp_30.map (fun p => p.1))
def zu_30 : List zCu := [(([(39, 5, [(2, .inl (0, [(0, 1)])), (0, .inr (.inl 8)), (1, .inl (5, []))], [])], .branch 13 (.branch 8 (.leaf (8, 1, 1600, .inl ((-128), 127), [])) (.branch 9 (.leaf (9, 101, 8, .inr 3, [((0, []), .inr (.inl 9)), ((3, []), .inr (.inl 22)), ((1, []), zaI), ((2, []), zaI), ((5, []), .inr (.inr (.inr (.inl (0, 30)))))])) (.leaf (10, 102, 11, .inr 3, [((1, []), .inr (.inl 13))])))) (.branch 16 (.leaf (14, 104, 7, .inr 3, [((5, []), .inr (.inl 16)), ((1, []), zaI), ((3, []), .inr (.inr (.inr (.inl (0, 540)))))])) (.branch 22 (.leaf (17, 0, 540, .inr 1, [])) (.leaf (23, 105, 6, .inr 3, [((4, []), .inr (.inl 7)), ((5, []), .inr (.inr (.inr (.inl (0, 1600))))), ((0, []), zaI), ((1, []), .inr (.inr (.inr (.inl (0, 1600))))), ((2, []), .inr (.inr (.inr (.inl (0, 1600))))), ((3, []), zaI)])))), [(0, 30)], [], []), [.inl (0, 2)], (30, [(0, (-1))]))]
def zs_30 : List zCt := [zc_29, zc_5]
theorem za_30 : zwin zw_30 zc_30.2.2.2.2.2.1 = true := by decide +kernel
theorem z0_30 : zst0 mi_P zw_30 [] [] (fun d y as t en => zcal zw_30 d y as t en zs_30) zc_30 zp_30 zu_30 292 = true := by decide +kernel
theorem zk_30 : zu_30.all (zck mi_P zc_30.2.1 zw_30 false [] [] (fun d y as t en => zcal zw_30 d y as t en zs_30) zc_30.2.2.2.1.length zc_30.2.2.2.1 zc_30.2.2.2.2.2.1 zp_30 zu_30 292) = true := by decide +kernel
theorem zt_30 {S : Nat × (Nat → Int32)} : zCtr mi_P S zTt zc_30 := by
  have hc : ∀ c ∈ zs_30, zCtr mi_P S zTt c := by
    intro c hc
    simp only [zs_30, List.mem_cons, List.not_mem_nil, or_false] at hc
    rcases hc with rfl | rfl
    · exact zt_29
    · exact zt_5
  exact zCtr_of (Om := zTt) (ct := zc_30) (ps := zp_30) (fun _ _ _ _ => trivial) rfl hc za_30 z0_30 zk_30
/-- L$Reader.readUnit(I)V -/
def zw_31 : zW := .branch 16 (.branch 13 (.leaf (9, [1, 2, 5])) (.leaf (14, [1, 3]))) (.branch 22 (.leaf (17, [0])) (.leaf (23, [0, 1, 2, 3])))
def zp_31 : List (zPo × List (Nat ⊕ (Nat × zL))) := [(([], [], [(8, [((1, []), zaI), ((2, []), zaI), ((5, []), .inr (.inr (.inr (.inl (0, 30)))))]), (13, [((1, []), zaI), ((3, []), .inr (.inr (.inr (.inl (0, 540)))))]), (16, []), (22, [((0, []), zaI), ((1, []), .inr (.inr (.inr (.inl (0, 1600))))), ((2, []), .inr (.inr (.inr (.inl (0, 1600))))), ((3, []), zaI)])], none), [])]
def zc_31 : zCt := (45, 28, [.inr (.inl 8), .inl (4, [])], [], [], .branch 13 (.branch 8 (.leaf (8, 1, 1600, .inl ((-128), 127), [])) (.branch 9 (.leaf (9, 101, 8, .inr 3, [((0, []), .inr (.inl 9)), ((1, []), zaI), ((2, []), zaI), ((3, []), .inr (.inl 22)), ((5, []), .inr (.inr (.inr (.inl (0, 30)))))])) (.leaf (10, 102, 11, .inr 3, [((1, []), .inr (.inl 13))])))) (.branch 16 (.leaf (14, 104, 7, .inr 3, [((1, []), zaI), ((3, []), .inr (.inr (.inr (.inl (0, 540))))), ((5, []), .inr (.inl 16))])) (.branch 22 (.leaf (17, 0, 540, .inr 1, [])) (.leaf (23, 105, 6, .inr 3, [((0, []), zaI), ((1, []), .inr (.inr (.inr (.inl (0, 1600))))), ((2, []), .inr (.inr (.inr (.inl (0, 1600))))), ((3, []), zaI), ((4, []), .inr (.inl 7)), ((5, []), .inr (.inr (.inr (.inl (0, 1600)))))])))), zw_31, [], zp_31.map (fun p => p.1))
def zu_31 : List zCu := []
def zs_31 : List zCt := [zc_7, zc_5, zc_30]
theorem za_31 : zwin zw_31 zc_31.2.2.2.2.2.1 = true := by decide +kernel
theorem z0_31 : zst0 mi_P zw_31 [] [] (fun d y as t en => zcal zw_31 d y as t en zs_31) zc_31 zp_31 zu_31 916 = true := by decide +kernel
theorem zk_31 : zu_31.all (zck mi_P zc_31.2.1 zw_31 false [] [] (fun d y as t en => zcal zw_31 d y as t en zs_31) zc_31.2.2.2.1.length zc_31.2.2.2.1 zc_31.2.2.2.2.2.1 zp_31 zu_31 916) = true := by decide +kernel
theorem zt_31 {S : Nat × (Nat → Int32)} : zCtr mi_P S zTt zc_31 := by
  have hc : ∀ c ∈ zs_31, zCtr mi_P S zTt c := by
    intro c hc
    simp only [zs_31, List.mem_cons, List.not_mem_nil, or_false] at hc
    rcases hc with rfl | rfl | rfl
    · exact zt_7
    · exact zt_5
    · exact zt_30
  exact zCtr_of (Om := zTt) (ct := zc_31) (ps := zp_31) (fun _ _ _ _ => trivial) rfl hc za_31 z0_31 zk_31
/-- L$Reader.readTerm(I)V -/
def zw_32 : zW := .branch 16 (.branch 13 (.leaf (9, [1, 2, 5])) (.leaf (14, [1, 3]))) (.branch 22 (.leaf (17, [0])) (.leaf (23, [0, 1, 2, 3])))
def zp_32 : List (zPo × List (Nat ⊕ (Nat × zL))) := [(([], [], [(8, [((1, []), zaI), ((2, []), zaI), ((5, []), .inr (.inr (.inr (.inl (0, 30)))))]), (13, [((1, []), zaI), ((3, []), .inr (.inr (.inr (.inl (0, 540)))))]), (16, []), (22, [((0, []), zaI), ((1, []), .inr (.inr (.inr (.inl (0, 1600))))), ((2, []), .inr (.inr (.inr (.inl (0, 1600))))), ((3, []), zaI)])], none), [])]
def zc_32 : zCt := (44, 29, [.inr (.inl 8), .inl (4, [])], [], [], .branch 13 (.branch 8 (.leaf (8, 1, 1600, .inl ((-128), 127), [])) (.branch 9 (.leaf (9, 101, 8, .inr 3, [((0, []), .inr (.inl 9)), ((1, []), zaI), ((2, []), zaI), ((3, []), .inr (.inl 22)), ((5, []), .inr (.inr (.inr (.inl (0, 30)))))])) (.leaf (10, 102, 11, .inr 3, [((1, []), .inr (.inl 13))])))) (.branch 16 (.leaf (14, 104, 7, .inr 3, [((1, []), zaI), ((3, []), .inr (.inr (.inr (.inl (0, 540))))), ((5, []), .inr (.inl 16))])) (.branch 22 (.leaf (17, 0, 540, .inr 1, [])) (.leaf (23, 105, 6, .inr 3, [((0, []), zaI), ((1, []), .inr (.inr (.inr (.inl (0, 1600))))), ((2, []), .inr (.inr (.inr (.inl (0, 1600))))), ((3, []), zaI), ((4, []), .inr (.inl 7)), ((5, []), .inr (.inr (.inr (.inl (0, 1600)))))])))), zw_32, [], zp_32.map (fun p => p.1))
def zu_32 : List zCu := [(([(44, 5, [(2, .inl (0, [(0, 1)])), (0, .inr (.inl 8)), (1, .inl (4, []))], [])], .branch 13 (.branch 8 (.leaf (8, 1, 1600, .inl ((-128), 127), [])) (.branch 9 (.leaf (9, 101, 8, .inr 3, [((0, []), .inr (.inl 9)), ((3, []), .inr (.inl 22)), ((1, []), zaI), ((2, []), zaI), ((5, []), .inr (.inr (.inr (.inl (0, 30)))))])) (.leaf (10, 102, 11, .inr 3, [((1, []), .inr (.inl 13))])))) (.branch 16 (.leaf (14, 104, 7, .inr 3, [((5, []), .inr (.inl 16)), ((1, []), zaI), ((3, []), .inr (.inr (.inr (.inl (0, 540)))))])) (.branch 22 (.leaf (17, 0, 540, .inr 1, [])) (.leaf (23, 105, 6, .inr 3, [((4, []), .inr (.inl 7)), ((5, []), .inr (.inr (.inr (.inl (0, 1600))))), ((0, []), zaI), ((1, []), .inr (.inr (.inr (.inl (0, 1600))))), ((2, []), .inr (.inr (.inr (.inl (0, 1600))))), ((3, []), zaI)])))), [(0, 30)], [], []), [.inl (0, 2)], (30, [(0, (-1))]))]
def zs_32 : List zCt := [zc_31, zc_5]
theorem za_32 : zwin zw_32 zc_32.2.2.2.2.2.1 = true := by decide +kernel
theorem z0_32 : zst0 mi_P zw_32 [] [] (fun d y as t en => zcal zw_32 d y as t en zs_32) zc_32 zp_32 zu_32 548 = true := by decide +kernel
theorem zk_32 : zu_32.all (zck mi_P zc_32.2.1 zw_32 false [] [] (fun d y as t en => zcal zw_32 d y as t en zs_32) zc_32.2.2.2.1.length zc_32.2.2.2.1 zc_32.2.2.2.2.2.1 zp_32 zu_32 548) = true := by decide +kernel
theorem zt_32 {S : Nat × (Nat → Int32)} : zCtr mi_P S zTt zc_32 := by
  have hc : ∀ c ∈ zs_32, zCtr mi_P S zTt c := by
    intro c hc
    simp only [zs_32, List.mem_cons, List.not_mem_nil, or_false] at hc
    rcases hc with rfl | rfl
    · exact zt_31
    · exact zt_5
  exact zCtr_of (Om := zTt) (ct := zc_32) (ps := zp_32) (fun _ _ _ _ => trivial) rfl hc za_32 z0_32 zk_32
/-- L$Reader.readSum(I)V -/
def zw_33 : zW := .branch 16 (.branch 13 (.leaf (9, [1, 2, 5])) (.leaf (14, [1, 3]))) (.branch 22 (.leaf (17, [0])) (.leaf (23, [0, 1, 2, 3])))
def zp_33 : List (zPo × List (Nat ⊕ (Nat × zL))) := [(([], [], [(8, [((1, []), zaI), ((2, []), zaI), ((5, []), .inr (.inr (.inr (.inl (0, 30)))))]), (13, [((1, []), zaI), ((3, []), .inr (.inr (.inr (.inl (0, 540)))))]), (16, []), (22, [((0, []), zaI), ((1, []), .inr (.inr (.inr (.inl (0, 1600))))), ((2, []), .inr (.inr (.inr (.inl (0, 1600))))), ((3, []), zaI)])], none), [])]
def zc_33 : zCt := (43, 30, [.inr (.inl 8), .inl (4, [])], [], [], .branch 13 (.branch 8 (.leaf (8, 1, 1600, .inl ((-128), 127), [])) (.branch 9 (.leaf (9, 101, 8, .inr 3, [((0, []), .inr (.inl 9)), ((1, []), zaI), ((2, []), zaI), ((3, []), .inr (.inl 22)), ((5, []), .inr (.inr (.inr (.inl (0, 30)))))])) (.leaf (10, 102, 11, .inr 3, [((1, []), .inr (.inl 13))])))) (.branch 16 (.leaf (14, 104, 7, .inr 3, [((1, []), zaI), ((3, []), .inr (.inr (.inr (.inl (0, 540))))), ((5, []), .inr (.inl 16))])) (.branch 22 (.leaf (17, 0, 540, .inr 1, [])) (.leaf (23, 105, 6, .inr 3, [((0, []), zaI), ((1, []), .inr (.inr (.inr (.inl (0, 1600))))), ((2, []), .inr (.inr (.inr (.inl (0, 1600))))), ((3, []), zaI), ((4, []), .inr (.inl 7)), ((5, []), .inr (.inr (.inr (.inl (0, 1600)))))])))), zw_33, [], zp_33.map (fun p => p.1))
def zu_33 : List zCu := [(([(43, 5, [(2, .inl (0, [(0, 1)])), (0, .inr (.inl 8)), (1, .inl (4, []))], [])], .branch 13 (.branch 8 (.leaf (8, 1, 1600, .inl ((-128), 127), [])) (.branch 9 (.leaf (9, 101, 8, .inr 3, [((0, []), .inr (.inl 9)), ((3, []), .inr (.inl 22)), ((1, []), zaI), ((2, []), zaI), ((5, []), .inr (.inr (.inr (.inl (0, 30)))))])) (.leaf (10, 102, 11, .inr 3, [((1, []), .inr (.inl 13))])))) (.branch 16 (.leaf (14, 104, 7, .inr 3, [((5, []), .inr (.inl 16)), ((1, []), zaI), ((3, []), .inr (.inr (.inr (.inl (0, 540)))))])) (.branch 22 (.leaf (17, 0, 540, .inr 1, [])) (.leaf (23, 105, 6, .inr 3, [((4, []), .inr (.inl 7)), ((5, []), .inr (.inr (.inr (.inl (0, 1600))))), ((0, []), zaI), ((1, []), .inr (.inr (.inr (.inl (0, 1600))))), ((2, []), .inr (.inr (.inr (.inl (0, 1600))))), ((3, []), zaI)])))), [(0, 30)], [], []), [.inl (0, 2)], (30, [(0, (-1))]))]
def zs_33 : List zCt := [zc_32, zc_5]
theorem za_33 : zwin zw_33 zc_33.2.2.2.2.2.1 = true := by decide +kernel
theorem z0_33 : zst0 mi_P zw_33 [] [] (fun d y as t en => zcal zw_33 d y as t en zs_33) zc_33 zp_33 zu_33 408 = true := by decide +kernel
theorem zk_33 : zu_33.all (zck mi_P zc_33.2.1 zw_33 false [] [] (fun d y as t en => zcal zw_33 d y as t en zs_33) zc_33.2.2.2.1.length zc_33.2.2.2.1 zc_33.2.2.2.2.2.1 zp_33 zu_33 408) = true := by decide +kernel
theorem zt_33 {S : Nat × (Nat → Int32)} : zCtr mi_P S zTt zc_33 := by
  have hc : ∀ c ∈ zs_33, zCtr mi_P S zTt c := by
    intro c hc
    simp only [zs_33, List.mem_cons, List.not_mem_nil, or_false] at hc
    rcases hc with rfl | rfl
    · exact zt_32
    · exact zt_5
  exact zCtr_of (Om := zTt) (ct := zc_33) (ps := zp_33) (fun _ _ _ _ => trivial) rfl hc za_33 z0_33 zk_33
/-- L$Reader.readRelation(I)V -/
def zw_34 : zW := .branch 16 (.branch 13 (.leaf (9, [1, 2, 5])) (.leaf (14, [1, 3]))) (.branch 22 (.leaf (17, [0])) (.leaf (23, [0, 1, 2, 3])))
def zp_34 : List (zPo × List (Nat ⊕ (Nat × zL))) := [(([], [], [(8, [((1, []), zaI), ((2, []), zaI), ((5, []), .inr (.inr (.inr (.inl (0, 30)))))]), (13, [((1, []), zaI), ((3, []), .inr (.inr (.inr (.inl (0, 540)))))]), (16, []), (22, [((0, []), zaI), ((1, []), .inr (.inr (.inr (.inl (0, 1600))))), ((2, []), .inr (.inr (.inr (.inl (0, 1600))))), ((3, []), zaI)])], none), [])]
def zc_34 : zCt := (42, 31, [.inr (.inl 8), .inl (4, [])], [], [], .branch 13 (.branch 8 (.leaf (8, 1, 1600, .inl ((-128), 127), [])) (.branch 9 (.leaf (9, 101, 8, .inr 3, [((0, []), .inr (.inl 9)), ((1, []), zaI), ((2, []), zaI), ((3, []), .inr (.inl 22)), ((5, []), .inr (.inr (.inr (.inl (0, 30)))))])) (.leaf (10, 102, 11, .inr 3, [((1, []), .inr (.inl 13))])))) (.branch 16 (.leaf (14, 104, 7, .inr 3, [((1, []), zaI), ((3, []), .inr (.inr (.inr (.inl (0, 540))))), ((5, []), .inr (.inl 16))])) (.branch 22 (.leaf (17, 0, 540, .inr 1, [])) (.leaf (23, 105, 6, .inr 3, [((0, []), zaI), ((1, []), .inr (.inr (.inr (.inl (0, 1600))))), ((2, []), .inr (.inr (.inr (.inl (0, 1600))))), ((3, []), zaI), ((4, []), .inr (.inl 7)), ((5, []), .inr (.inr (.inr (.inl (0, 1600)))))])))), zw_34, [], zp_34.map (fun p => p.1))
def zu_34 : List zCu := []
def zs_34 : List zCt := [zc_33, zc_5]
theorem za_34 : zwin zw_34 zc_34.2.2.2.2.2.1 = true := by decide +kernel
theorem z0_34 : zst0 mi_P zw_34 [] [] (fun d y as t en => zcal zw_34 d y as t en zs_34) zc_34 zp_34 zu_34 470 = true := by decide +kernel
theorem zk_34 : zu_34.all (zck mi_P zc_34.2.1 zw_34 false [] [] (fun d y as t en => zcal zw_34 d y as t en zs_34) zc_34.2.2.2.1.length zc_34.2.2.2.1 zc_34.2.2.2.2.2.1 zp_34 zu_34 470) = true := by decide +kernel
theorem zt_34 {S : Nat × (Nat → Int32)} : zCtr mi_P S zTt zc_34 := by
  have hc : ∀ c ∈ zs_34, zCtr mi_P S zTt c := by
    intro c hc
    simp only [zs_34, List.mem_cons, List.not_mem_nil, or_false] at hc
    rcases hc with rfl | rfl
    · exact zt_33
    · exact zt_5
  exact zCtr_of (Om := zTt) (ct := zc_34) (ps := zp_34) (fun _ _ _ _ => trivial) rfl hc za_34 z0_34 zk_34
/-- L$Reader.readOne(I)V -/
def zw_35 : zW := .branch 16 (.branch 13 (.leaf (9, [1, 2, 5])) (.leaf (14, [1, 3]))) (.branch 22 (.leaf (17, [0])) (.leaf (23, [0, 1, 2, 3])))
def zp_35 : List (zPo × List (Nat ⊕ (Nat × zL))) := [(([], [], [(8, [((1, []), zaI), ((2, []), zaI), ((5, []), .inr (.inr (.inr (.inl (0, 30)))))]), (13, [((1, []), zaI), ((3, []), .inr (.inr (.inr (.inl (0, 540)))))]), (16, []), (22, [((0, []), zaI), ((1, []), .inr (.inr (.inr (.inl (0, 1600))))), ((2, []), .inr (.inr (.inr (.inl (0, 1600))))), ((3, []), zaI)])], none), [])]
def zc_35 : zCt := (41, 32, [.inr (.inl 8), .inl (4, [])], [], [], .branch 13 (.branch 8 (.leaf (8, 1, 1600, .inl ((-128), 127), [])) (.branch 9 (.leaf (9, 101, 8, .inr 3, [((0, []), .inr (.inl 9)), ((1, []), zaI), ((2, []), zaI), ((3, []), .inr (.inl 22)), ((5, []), .inr (.inr (.inr (.inl (0, 30)))))])) (.leaf (10, 102, 11, .inr 3, [((1, []), .inr (.inl 13))])))) (.branch 16 (.leaf (14, 104, 7, .inr 3, [((1, []), zaI), ((3, []), .inr (.inr (.inr (.inl (0, 540))))), ((5, []), .inr (.inl 16))])) (.branch 22 (.leaf (17, 0, 540, .inr 1, [])) (.leaf (23, 105, 6, .inr 3, [((0, []), zaI), ((1, []), .inr (.inr (.inr (.inl (0, 1600))))), ((2, []), .inr (.inr (.inr (.inl (0, 1600))))), ((3, []), zaI), ((4, []), .inr (.inl 7)), ((5, []), .inr (.inr (.inr (.inl (0, 1600)))))])))), zw_35, [], zp_35.map (fun p => p.1))
def zu_35 : List zCu := []
def zs_35 : List zCt := [zc_5, zc_28, zc_34]
theorem za_35 : zwin zw_35 zc_35.2.2.2.2.2.1 = true := by decide +kernel
theorem z0_35 : zst0 mi_P zw_35 [] [] (fun d y as t en => zcal zw_35 d y as t en zs_35) zc_35 zp_35 zu_35 296 = true := by decide +kernel
theorem zk_35 : zu_35.all (zck mi_P zc_35.2.1 zw_35 false [] [] (fun d y as t en => zcal zw_35 d y as t en zs_35) zc_35.2.2.2.1.length zc_35.2.2.2.1 zc_35.2.2.2.2.2.1 zp_35 zu_35 296) = true := by decide +kernel
theorem zt_35 {S : Nat × (Nat → Int32)} : zCtr mi_P S zTt zc_35 := by
  have hc : ∀ c ∈ zs_35, zCtr mi_P S zTt c := by
    intro c hc
    simp only [zs_35, List.mem_cons, List.not_mem_nil, or_false] at hc
    rcases hc with rfl | rfl | rfl
    · exact zt_5
    · exact zt_28
    · exact zt_34
  exact zCtr_of (Om := zTt) (ct := zc_35) (ps := zp_35) (fun _ _ _ _ => trivial) rfl hc za_35 z0_35 zk_35
/-- L$Reader.readAnds(I)V -/
def zw_36 : zW := .branch 16 (.branch 13 (.leaf (9, [1, 2, 5])) (.leaf (14, [1, 3]))) (.branch 22 (.leaf (17, [0])) (.leaf (23, [0, 1, 2, 3])))
def zp_36 : List (zPo × List (Nat ⊕ (Nat × zL))) := [(([], [], [(8, [((1, []), zaI), ((2, []), zaI), ((5, []), .inr (.inr (.inr (.inl (0, 30)))))]), (13, [((1, []), zaI), ((3, []), .inr (.inr (.inr (.inl (0, 540)))))]), (16, []), (22, [((0, []), zaI), ((1, []), .inr (.inr (.inr (.inl (0, 1600))))), ((2, []), .inr (.inr (.inr (.inl (0, 1600))))), ((3, []), zaI)])], none), [])]
def zc_36 : zCt := (40, 33, [.inr (.inl 8), .inl (4, [])], [], [], .branch 13 (.branch 8 (.leaf (8, 1, 1600, .inl ((-128), 127), [])) (.branch 9 (.leaf (9, 101, 8, .inr 3, [((0, []), .inr (.inl 9)), ((1, []), zaI), ((2, []), zaI), ((3, []), .inr (.inl 22)), ((5, []), .inr (.inr (.inr (.inl (0, 30)))))])) (.leaf (10, 102, 11, .inr 3, [((1, []), .inr (.inl 13))])))) (.branch 16 (.leaf (14, 104, 7, .inr 3, [((1, []), zaI), ((3, []), .inr (.inr (.inr (.inl (0, 540))))), ((5, []), .inr (.inl 16))])) (.branch 22 (.leaf (17, 0, 540, .inr 1, [])) (.leaf (23, 105, 6, .inr 3, [((0, []), zaI), ((1, []), .inr (.inr (.inr (.inl (0, 1600))))), ((2, []), .inr (.inr (.inr (.inl (0, 1600))))), ((3, []), zaI), ((4, []), .inr (.inl 7)), ((5, []), .inr (.inr (.inr (.inl (0, 1600)))))])))), zw_36, [], zp_36.map (fun p => p.1))
def zu_36 : List zCu := [(([(40, 5, [(2, .inl (0, [(0, 1)])), (0, .inr (.inl 8)), (1, .inl (4, []))], [])], .branch 13 (.branch 8 (.leaf (8, 1, 1600, .inl ((-128), 127), [])) (.branch 9 (.leaf (9, 101, 8, .inr 3, [((0, []), .inr (.inl 9)), ((3, []), .inr (.inl 22)), ((1, []), zaI), ((2, []), zaI), ((5, []), .inr (.inr (.inr (.inl (0, 30)))))])) (.leaf (10, 102, 11, .inr 3, [((1, []), .inr (.inl 13))])))) (.branch 16 (.leaf (14, 104, 7, .inr 3, [((5, []), .inr (.inl 16)), ((1, []), zaI), ((3, []), .inr (.inr (.inr (.inl (0, 540)))))])) (.branch 22 (.leaf (17, 0, 540, .inr 1, [])) (.leaf (23, 105, 6, .inr 3, [((4, []), .inr (.inl 7)), ((5, []), .inr (.inr (.inr (.inl (0, 1600))))), ((0, []), zaI), ((1, []), .inr (.inr (.inr (.inl (0, 1600))))), ((2, []), .inr (.inr (.inr (.inl (0, 1600))))), ((3, []), zaI)])))), [(0, 30)], [], []), [.inl (0, 2)], (30, [(0, (-1))]))]
def zs_36 : List zCt := [zc_35, zc_5]
theorem za_36 : zwin zw_36 zc_36.2.2.2.2.2.1 = true := by decide +kernel
theorem z0_36 : zst0 mi_P zw_36 [] [] (fun d y as t en => zcal zw_36 d y as t en zs_36) zc_36 zp_36 zu_36 292 = true := by decide +kernel
theorem zk_36 : zu_36.all (zck mi_P zc_36.2.1 zw_36 false [] [] (fun d y as t en => zcal zw_36 d y as t en zs_36) zc_36.2.2.2.1.length zc_36.2.2.2.1 zc_36.2.2.2.2.2.1 zp_36 zu_36 292) = true := by decide +kernel
theorem zt_36 {S : Nat × (Nat → Int32)} : zCtr mi_P S zTt zc_36 := by
  have hc : ∀ c ∈ zs_36, zCtr mi_P S zTt c := by
    intro c hc
    simp only [zs_36, List.mem_cons, List.not_mem_nil, or_false] at hc
    rcases hc with rfl | rfl
    · exact zt_35
    · exact zt_5
  exact zCtr_of (Om := zTt) (ct := zc_36) (ps := zp_36) (fun _ _ _ _ => trivial) rfl hc za_36 z0_36 zk_36
/-- L$Reader.readOrs(I)V -/
def zw_37 : zW := .branch 16 (.branch 13 (.leaf (9, [1, 2, 5])) (.leaf (14, [1, 3]))) (.branch 22 (.leaf (17, [0])) (.leaf (23, [0, 1, 2, 3])))
def zp_37 : List (zPo × List (Nat ⊕ (Nat × zL))) := [(([], [], [(8, [((1, []), zaI), ((2, []), zaI), ((5, []), .inr (.inr (.inr (.inl (0, 30)))))]), (13, [((1, []), zaI), ((3, []), .inr (.inr (.inr (.inl (0, 540)))))]), (16, []), (22, [((0, []), zaI), ((1, []), .inr (.inr (.inr (.inl (0, 1600))))), ((2, []), .inr (.inr (.inr (.inl (0, 1600))))), ((3, []), zaI)])], none), [])]
def zc_37 : zCt := (39, 34, [.inr (.inl 8), .inl (4, [])], [], [], .branch 13 (.branch 8 (.leaf (8, 1, 1600, .inl ((-128), 127), [])) (.branch 9 (.leaf (9, 101, 8, .inr 3, [((0, []), .inr (.inl 9)), ((1, []), zaI), ((2, []), zaI), ((3, []), .inr (.inl 22)), ((5, []), .inr (.inr (.inr (.inl (0, 30)))))])) (.leaf (10, 102, 11, .inr 3, [((1, []), .inr (.inl 13))])))) (.branch 16 (.leaf (14, 104, 7, .inr 3, [((1, []), zaI), ((3, []), .inr (.inr (.inr (.inl (0, 540))))), ((5, []), .inr (.inl 16))])) (.branch 22 (.leaf (17, 0, 540, .inr 1, [])) (.leaf (23, 105, 6, .inr 3, [((0, []), zaI), ((1, []), .inr (.inr (.inr (.inl (0, 1600))))), ((2, []), .inr (.inr (.inr (.inl (0, 1600))))), ((3, []), zaI), ((4, []), .inr (.inl 7)), ((5, []), .inr (.inr (.inr (.inl (0, 1600)))))])))), zw_37, [], zp_37.map (fun p => p.1))
def zu_37 : List zCu := [(([(39, 5, [(2, .inl (0, [(0, 1)])), (0, .inr (.inl 8)), (1, .inl (4, []))], [])], .branch 13 (.branch 8 (.leaf (8, 1, 1600, .inl ((-128), 127), [])) (.branch 9 (.leaf (9, 101, 8, .inr 3, [((0, []), .inr (.inl 9)), ((3, []), .inr (.inl 22)), ((1, []), zaI), ((2, []), zaI), ((5, []), .inr (.inr (.inr (.inl (0, 30)))))])) (.leaf (10, 102, 11, .inr 3, [((1, []), .inr (.inl 13))])))) (.branch 16 (.leaf (14, 104, 7, .inr 3, [((5, []), .inr (.inl 16)), ((1, []), zaI), ((3, []), .inr (.inr (.inr (.inl (0, 540)))))])) (.branch 22 (.leaf (17, 0, 540, .inr 1, [])) (.leaf (23, 105, 6, .inr 3, [((4, []), .inr (.inl 7)), ((5, []), .inr (.inr (.inr (.inl (0, 1600))))), ((0, []), zaI), ((1, []), .inr (.inr (.inr (.inl (0, 1600))))), ((2, []), .inr (.inr (.inr (.inl (0, 1600))))), ((3, []), zaI)])))), [(0, 30)], [], []), [.inl (0, 2)], (30, [(0, (-1))]))]
def zs_37 : List zCt := [zc_36, zc_5]
theorem za_37 : zwin zw_37 zc_37.2.2.2.2.2.1 = true := by decide +kernel
theorem z0_37 : zst0 mi_P zw_37 [] [] (fun d y as t en => zcal zw_37 d y as t en zs_37) zc_37 zp_37 zu_37 292 = true := by decide +kernel
theorem zk_37 : zu_37.all (zck mi_P zc_37.2.1 zw_37 false [] [] (fun d y as t en => zcal zw_37 d y as t en zs_37) zc_37.2.2.2.1.length zc_37.2.2.2.1 zc_37.2.2.2.2.2.1 zp_37 zu_37 292) = true := by decide +kernel
theorem zt_37 {S : Nat × (Nat → Int32)} : zCtr mi_P S zTt zc_37 := by
  have hc : ∀ c ∈ zs_37, zCtr mi_P S zTt c := by
    intro c hc
    simp only [zs_37, List.mem_cons, List.not_mem_nil, or_false] at hc
    rcases hc with rfl | rfl
    · exact zt_36
    · exact zt_5
  exact zCtr_of (Om := zTt) (ct := zc_37) (ps := zp_37) (fun _ _ _ _ => trivial) rfl hc za_37 z0_37 zk_37
/-- L$Reader.readUnit(I)V -/
def zw_38 : zW := .branch 16 (.branch 13 (.leaf (9, [1, 2, 5])) (.leaf (14, [1, 3]))) (.branch 22 (.leaf (17, [0])) (.leaf (23, [0, 1, 2, 3])))
def zp_38 : List (zPo × List (Nat ⊕ (Nat × zL))) := [(([], [], [(8, [((1, []), zaI), ((2, []), zaI), ((5, []), .inr (.inr (.inr (.inl (0, 30)))))]), (13, [((1, []), zaI), ((3, []), .inr (.inr (.inr (.inl (0, 540)))))]), (16, []), (22, [((0, []), zaI), ((1, []), .inr (.inr (.inr (.inl (0, 1600))))), ((2, []), .inr (.inr (.inr (.inl (0, 1600))))), ((3, []), zaI)])], none), [])]
def zc_38 : zCt := (45, 35, [.inr (.inl 8), .inl (3, [])], [], [], .branch 13 (.branch 8 (.leaf (8, 1, 1600, .inl ((-128), 127), [])) (.branch 9 (.leaf (9, 101, 8, .inr 3, [((0, []), .inr (.inl 9)), ((1, []), zaI), ((2, []), zaI), ((3, []), .inr (.inl 22)), ((5, []), .inr (.inr (.inr (.inl (0, 30)))))])) (.leaf (10, 102, 11, .inr 3, [((1, []), .inr (.inl 13))])))) (.branch 16 (.leaf (14, 104, 7, .inr 3, [((1, []), zaI), ((3, []), .inr (.inr (.inr (.inl (0, 540))))), ((5, []), .inr (.inl 16))])) (.branch 22 (.leaf (17, 0, 540, .inr 1, [])) (.leaf (23, 105, 6, .inr 3, [((0, []), zaI), ((1, []), .inr (.inr (.inr (.inl (0, 1600))))), ((2, []), .inr (.inr (.inr (.inl (0, 1600))))), ((3, []), zaI), ((4, []), .inr (.inl 7)), ((5, []), .inr (.inr (.inr (.inl (0, 1600)))))])))), zw_38, [], zp_38.map (fun p => p.1))
def zu_38 : List zCu := []
def zs_38 : List zCt := [zc_7, zc_5, zc_37]
theorem za_38 : zwin zw_38 zc_38.2.2.2.2.2.1 = true := by decide +kernel
theorem z0_38 : zst0 mi_P zw_38 [] [] (fun d y as t en => zcal zw_38 d y as t en zs_38) zc_38 zp_38 zu_38 916 = true := by decide +kernel
theorem zk_38 : zu_38.all (zck mi_P zc_38.2.1 zw_38 false [] [] (fun d y as t en => zcal zw_38 d y as t en zs_38) zc_38.2.2.2.1.length zc_38.2.2.2.1 zc_38.2.2.2.2.2.1 zp_38 zu_38 916) = true := by decide +kernel
theorem zt_38 {S : Nat × (Nat → Int32)} : zCtr mi_P S zTt zc_38 := by
  have hc : ∀ c ∈ zs_38, zCtr mi_P S zTt c := by
    intro c hc
    simp only [zs_38, List.mem_cons, List.not_mem_nil, or_false] at hc
    rcases hc with rfl | rfl | rfl
    · exact zt_7
    · exact zt_5
    · exact zt_37
  exact zCtr_of (Om := zTt) (ct := zc_38) (ps := zp_38) (fun _ _ _ _ => trivial) rfl hc za_38 z0_38 zk_38
/-- L$Reader.readTerm(I)V -/
def zw_39 : zW := .branch 16 (.branch 13 (.leaf (9, [1, 2, 5])) (.leaf (14, [1, 3]))) (.branch 22 (.leaf (17, [0])) (.leaf (23, [0, 1, 2, 3])))
def zp_39 : List (zPo × List (Nat ⊕ (Nat × zL))) := [(([], [], [(8, [((1, []), zaI), ((2, []), zaI), ((5, []), .inr (.inr (.inr (.inl (0, 30)))))]), (13, [((1, []), zaI), ((3, []), .inr (.inr (.inr (.inl (0, 540)))))]), (16, []), (22, [((0, []), zaI), ((1, []), .inr (.inr (.inr (.inl (0, 1600))))), ((2, []), .inr (.inr (.inr (.inl (0, 1600))))), ((3, []), zaI)])], none), [])]
def zc_39 : zCt := (44, 36, [.inr (.inl 8), .inl (3, [])], [], [], .branch 13 (.branch 8 (.leaf (8, 1, 1600, .inl ((-128), 127), [])) (.branch 9 (.leaf (9, 101, 8, .inr 3, [((0, []), .inr (.inl 9)), ((1, []), zaI), ((2, []), zaI), ((3, []), .inr (.inl 22)), ((5, []), .inr (.inr (.inr (.inl (0, 30)))))])) (.leaf (10, 102, 11, .inr 3, [((1, []), .inr (.inl 13))])))) (.branch 16 (.leaf (14, 104, 7, .inr 3, [((1, []), zaI), ((3, []), .inr (.inr (.inr (.inl (0, 540))))), ((5, []), .inr (.inl 16))])) (.branch 22 (.leaf (17, 0, 540, .inr 1, [])) (.leaf (23, 105, 6, .inr 3, [((0, []), zaI), ((1, []), .inr (.inr (.inr (.inl (0, 1600))))), ((2, []), .inr (.inr (.inr (.inl (0, 1600))))), ((3, []), zaI), ((4, []), .inr (.inl 7)), ((5, []), .inr (.inr (.inr (.inl (0, 1600)))))])))), zw_39, [], zp_39.map (fun p => p.1))
def zu_39 : List zCu := [(([(44, 5, [(2, .inl (0, [(0, 1)])), (0, .inr (.inl 8)), (1, .inl (3, []))], [])], .branch 13 (.branch 8 (.leaf (8, 1, 1600, .inl ((-128), 127), [])) (.branch 9 (.leaf (9, 101, 8, .inr 3, [((0, []), .inr (.inl 9)), ((3, []), .inr (.inl 22)), ((1, []), zaI), ((2, []), zaI), ((5, []), .inr (.inr (.inr (.inl (0, 30)))))])) (.leaf (10, 102, 11, .inr 3, [((1, []), .inr (.inl 13))])))) (.branch 16 (.leaf (14, 104, 7, .inr 3, [((5, []), .inr (.inl 16)), ((1, []), zaI), ((3, []), .inr (.inr (.inr (.inl (0, 540)))))])) (.branch 22 (.leaf (17, 0, 540, .inr 1, [])) (.leaf (23, 105, 6, .inr 3, [((4, []), .inr (.inl 7)), ((5, []), .inr (.inr (.inr (.inl (0, 1600))))), ((0, []), zaI), ((1, []), .inr (.inr (.inr (.inl (0, 1600))))), ((2, []), .inr (.inr (.inr (.inl (0, 1600))))), ((3, []), zaI)])))), [(0, 30)], [], []), [.inl (0, 2)], (30, [(0, (-1))]))]
def zs_39 : List zCt := [zc_38, zc_5]
theorem za_39 : zwin zw_39 zc_39.2.2.2.2.2.1 = true := by decide +kernel
theorem z0_39 : zst0 mi_P zw_39 [] [] (fun d y as t en => zcal zw_39 d y as t en zs_39) zc_39 zp_39 zu_39 548 = true := by decide +kernel
theorem zk_39 : zu_39.all (zck mi_P zc_39.2.1 zw_39 false [] [] (fun d y as t en => zcal zw_39 d y as t en zs_39) zc_39.2.2.2.1.length zc_39.2.2.2.1 zc_39.2.2.2.2.2.1 zp_39 zu_39 548) = true := by decide +kernel
theorem zt_39 {S : Nat × (Nat → Int32)} : zCtr mi_P S zTt zc_39 := by
  have hc : ∀ c ∈ zs_39, zCtr mi_P S zTt c := by
    intro c hc
    simp only [zs_39, List.mem_cons, List.not_mem_nil, or_false] at hc
    rcases hc with rfl | rfl
    · exact zt_38
    · exact zt_5
  exact zCtr_of (Om := zTt) (ct := zc_39) (ps := zp_39) (fun _ _ _ _ => trivial) rfl hc za_39 z0_39 zk_39
/-- L$Reader.readSum(I)V -/
def zw_40 : zW := .branch 16 (.branch 13 (.leaf (9, [1, 2, 5])) (.leaf (14, [1, 3]))) (.branch 22 (.leaf (17, [0])) (.leaf (23, [0, 1, 2, 3])))
def zp_40 : List (zPo × List (Nat ⊕ (Nat × zL))) := [(([], [], [(8, [((1, []), zaI), ((2, []), zaI), ((5, []), .inr (.inr (.inr (.inl (0, 30)))))]), (13, [((1, []), zaI), ((3, []), .inr (.inr (.inr (.inl (0, 540)))))]), (16, []), (22, [((0, []), zaI), ((1, []), .inr (.inr (.inr (.inl (0, 1600))))), ((2, []), .inr (.inr (.inr (.inl (0, 1600))))), ((3, []), zaI)])], none), [])]
def zc_40 : zCt := (43, 37, [.inr (.inl 8), .inl (3, [])], [], [], .branch 13 (.branch 8 (.leaf (8, 1, 1600, .inl ((-128), 127), [])) (.branch 9 (.leaf (9, 101, 8, .inr 3, [((0, []), .inr (.inl 9)), ((1, []), zaI), ((2, []), zaI), ((3, []), .inr (.inl 22)), ((5, []), .inr (.inr (.inr (.inl (0, 30)))))])) (.leaf (10, 102, 11, .inr 3, [((1, []), .inr (.inl 13))])))) (.branch 16 (.leaf (14, 104, 7, .inr 3, [((1, []), zaI), ((3, []), .inr (.inr (.inr (.inl (0, 540))))), ((5, []), .inr (.inl 16))])) (.branch 22 (.leaf (17, 0, 540, .inr 1, [])) (.leaf (23, 105, 6, .inr 3, [((0, []), zaI), ((1, []), .inr (.inr (.inr (.inl (0, 1600))))), ((2, []), .inr (.inr (.inr (.inl (0, 1600))))), ((3, []), zaI), ((4, []), .inr (.inl 7)), ((5, []), .inr (.inr (.inr (.inl (0, 1600)))))])))), zw_40, [], zp_40.map (fun p => p.1))
def zu_40 : List zCu := [(([(43, 5, [(2, .inl (0, [(0, 1)])), (0, .inr (.inl 8)), (1, .inl (3, []))], [])], .branch 13 (.branch 8 (.leaf (8, 1, 1600, .inl ((-128), 127), [])) (.branch 9 (.leaf (9, 101, 8, .inr 3, [((0, []), .inr (.inl 9)), ((3, []), .inr (.inl 22)), ((1, []), zaI), ((2, []), zaI), ((5, []), .inr (.inr (.inr (.inl (0, 30)))))])) (.leaf (10, 102, 11, .inr 3, [((1, []), .inr (.inl 13))])))) (.branch 16 (.leaf (14, 104, 7, .inr 3, [((5, []), .inr (.inl 16)), ((1, []), zaI), ((3, []), .inr (.inr (.inr (.inl (0, 540)))))])) (.branch 22 (.leaf (17, 0, 540, .inr 1, [])) (.leaf (23, 105, 6, .inr 3, [((4, []), .inr (.inl 7)), ((5, []), .inr (.inr (.inr (.inl (0, 1600))))), ((0, []), zaI), ((1, []), .inr (.inr (.inr (.inl (0, 1600))))), ((2, []), .inr (.inr (.inr (.inl (0, 1600))))), ((3, []), zaI)])))), [(0, 30)], [], []), [.inl (0, 2)], (30, [(0, (-1))]))]
def zs_40 : List zCt := [zc_39, zc_5]
theorem za_40 : zwin zw_40 zc_40.2.2.2.2.2.1 = true := by decide +kernel
theorem z0_40 : zst0 mi_P zw_40 [] [] (fun d y as t en => zcal zw_40 d y as t en zs_40) zc_40 zp_40 zu_40 408 = true := by decide +kernel
theorem zk_40 : zu_40.all (zck mi_P zc_40.2.1 zw_40 false [] [] (fun d y as t en => zcal zw_40 d y as t en zs_40) zc_40.2.2.2.1.length zc_40.2.2.2.1 zc_40.2.2.2.2.2.1 zp_40 zu_40 408) = true := by decide +kernel
theorem zt_40 {S : Nat × (Nat → Int32)} : zCtr mi_P S zTt zc_40 := by
  have hc : ∀ c ∈ zs_40, zCtr mi_P S zTt c := by
    intro c hc
    simp only [zs_40, List.mem_cons, List.not_mem_nil, or_false] at hc
    rcases hc with rfl | rfl
    · exact zt_39
    · exact zt_5
  exact zCtr_of (Om := zTt) (ct := zc_40) (ps := zp_40) (fun _ _ _ _ => trivial) rfl hc za_40 z0_40 zk_40
/-- L$Reader.readRelation(I)V -/
def zw_41 : zW := .branch 16 (.branch 13 (.leaf (9, [1, 2, 5])) (.leaf (14, [1, 3]))) (.branch 22 (.leaf (17, [0])) (.leaf (23, [0, 1, 2, 3])))
def zp_41 : List (zPo × List (Nat ⊕ (Nat × zL))) := [(([], [], [(8, [((1, []), zaI), ((2, []), zaI), ((5, []), .inr (.inr (.inr (.inl (0, 30)))))]), (13, [((1, []), zaI), ((3, []), .inr (.inr (.inr (.inl (0, 540)))))]), (16, []), (22, [((0, []), zaI), ((1, []), .inr (.inr (.inr (.inl (0, 1600))))), ((2, []), .inr (.inr (.inr (.inl (0, 1600))))), ((3, []), zaI)])], none), [])]
def zc_41 : zCt := (42, 38, [.inr (.inl 8), .inl (3, [])], [], [], .branch 13 (.branch 8 (.leaf (8, 1, 1600, .inl ((-128), 127), [])) (.branch 9 (.leaf (9, 101, 8, .inr 3, [((0, []), .inr (.inl 9)), ((1, []), zaI), ((2, []), zaI), ((3, []), .inr (.inl 22)), ((5, []), .inr (.inr (.inr (.inl (0, 30)))))])) (.leaf (10, 102, 11, .inr 3, [((1, []), .inr (.inl 13))])))) (.branch 16 (.leaf (14, 104, 7, .inr 3, [((1, []), zaI), ((3, []), .inr (.inr (.inr (.inl (0, 540))))), ((5, []), .inr (.inl 16))])) (.branch 22 (.leaf (17, 0, 540, .inr 1, [])) (.leaf (23, 105, 6, .inr 3, [((0, []), zaI), ((1, []), .inr (.inr (.inr (.inl (0, 1600))))), ((2, []), .inr (.inr (.inr (.inl (0, 1600))))), ((3, []), zaI), ((4, []), .inr (.inl 7)), ((5, []), .inr (.inr (.inr (.inl (0, 1600)))))])))), zw_41, [], zp_41.map (fun p => p.1))
def zu_41 : List zCu := []
def zs_41 : List zCt := [zc_40, zc_5]
theorem za_41 : zwin zw_41 zc_41.2.2.2.2.2.1 = true := by decide +kernel
theorem z0_41 : zst0 mi_P zw_41 [] [] (fun d y as t en => zcal zw_41 d y as t en zs_41) zc_41 zp_41 zu_41 470 = true := by decide +kernel
theorem zk_41 : zu_41.all (zck mi_P zc_41.2.1 zw_41 false [] [] (fun d y as t en => zcal zw_41 d y as t en zs_41) zc_41.2.2.2.1.length zc_41.2.2.2.1 zc_41.2.2.2.2.2.1 zp_41 zu_41 470) = true := by decide +kernel
theorem zt_41 {S : Nat × (Nat → Int32)} : zCtr mi_P S zTt zc_41 := by
  have hc : ∀ c ∈ zs_41, zCtr mi_P S zTt c := by
    intro c hc
    simp only [zs_41, List.mem_cons, List.not_mem_nil, or_false] at hc
    rcases hc with rfl | rfl
    · exact zt_40
    · exact zt_5
  exact zCtr_of (Om := zTt) (ct := zc_41) (ps := zp_41) (fun _ _ _ _ => trivial) rfl hc za_41 z0_41 zk_41
/-- L$Reader.readOne(I)V -/
def zw_42 : zW := .branch 16 (.branch 13 (.leaf (9, [1, 2, 5])) (.leaf (14, [1, 3]))) (.branch 22 (.leaf (17, [0])) (.leaf (23, [0, 1, 2, 3])))
def zp_42 : List (zPo × List (Nat ⊕ (Nat × zL))) := [(([], [], [(8, [((1, []), zaI), ((2, []), zaI), ((5, []), .inr (.inr (.inr (.inl (0, 30)))))]), (13, [((1, []), zaI), ((3, []), .inr (.inr (.inr (.inl (0, 540)))))]), (16, []), (22, [((0, []), zaI), ((1, []), .inr (.inr (.inr (.inl (0, 1600))))), ((2, []), .inr (.inr (.inr (.inl (0, 1600))))), ((3, []), zaI)])], none), [])]
def zc_42 : zCt := (41, 39, [.inr (.inl 8), .inl (3, [])], [], [], .branch 13 (.branch 8 (.leaf (8, 1, 1600, .inl ((-128), 127), [])) (.branch 9 (.leaf (9, 101, 8, .inr 3, [((0, []), .inr (.inl 9)), ((1, []), zaI), ((2, []), zaI), ((3, []), .inr (.inl 22)), ((5, []), .inr (.inr (.inr (.inl (0, 30)))))])) (.leaf (10, 102, 11, .inr 3, [((1, []), .inr (.inl 13))])))) (.branch 16 (.leaf (14, 104, 7, .inr 3, [((1, []), zaI), ((3, []), .inr (.inr (.inr (.inl (0, 540))))), ((5, []), .inr (.inl 16))])) (.branch 22 (.leaf (17, 0, 540, .inr 1, [])) (.leaf (23, 105, 6, .inr 3, [((0, []), zaI), ((1, []), .inr (.inr (.inr (.inl (0, 1600))))), ((2, []), .inr (.inr (.inr (.inl (0, 1600))))), ((3, []), zaI), ((4, []), .inr (.inl 7)), ((5, []), .inr (.inr (.inr (.inl (0, 1600)))))])))), zw_42, [], zp_42.map (fun p => p.1))
def zu_42 : List zCu := []
def zs_42 : List zCt := [zc_5, zc_35, zc_41]
theorem za_42 : zwin zw_42 zc_42.2.2.2.2.2.1 = true := by decide +kernel
theorem z0_42 : zst0 mi_P zw_42 [] [] (fun d y as t en => zcal zw_42 d y as t en zs_42) zc_42 zp_42 zu_42 296 = true := by decide +kernel
theorem zk_42 : zu_42.all (zck mi_P zc_42.2.1 zw_42 false [] [] (fun d y as t en => zcal zw_42 d y as t en zs_42) zc_42.2.2.2.1.length zc_42.2.2.2.1 zc_42.2.2.2.2.2.1 zp_42 zu_42 296) = true := by decide +kernel
theorem zt_42 {S : Nat × (Nat → Int32)} : zCtr mi_P S zTt zc_42 := by
  have hc : ∀ c ∈ zs_42, zCtr mi_P S zTt c := by
    intro c hc
    simp only [zs_42, List.mem_cons, List.not_mem_nil, or_false] at hc
    rcases hc with rfl | rfl | rfl
    · exact zt_5
    · exact zt_35
    · exact zt_41
  exact zCtr_of (Om := zTt) (ct := zc_42) (ps := zp_42) (fun _ _ _ _ => trivial) rfl hc za_42 z0_42 zk_42
/-- L$Reader.readAnds(I)V -/
def zw_43 : zW := .branch 16 (.branch 13 (.leaf (9, [1, 2, 5])) (.leaf (14, [1, 3]))) (.branch 22 (.leaf (17, [0])) (.leaf (23, [0, 1, 2, 3])))
def zp_43 : List (zPo × List (Nat ⊕ (Nat × zL))) := [(([], [], [(8, [((1, []), zaI), ((2, []), zaI), ((5, []), .inr (.inr (.inr (.inl (0, 30)))))]), (13, [((1, []), zaI), ((3, []), .inr (.inr (.inr (.inl (0, 540)))))]), (16, []), (22, [((0, []), zaI), ((1, []), .inr (.inr (.inr (.inl (0, 1600))))), ((2, []), .inr (.inr (.inr (.inl (0, 1600))))), ((3, []), zaI)])], none), [])]
def zc_43 : zCt := (40, 40, [.inr (.inl 8), .inl (3, [])], [], [], .branch 13 (.branch 8 (.leaf (8, 1, 1600, .inl ((-128), 127), [])) (.branch 9 (.leaf (9, 101, 8, .inr 3, [((0, []), .inr (.inl 9)), ((1, []), zaI), ((2, []), zaI), ((3, []), .inr (.inl 22)), ((5, []), .inr (.inr (.inr (.inl (0, 30)))))])) (.leaf (10, 102, 11, .inr 3, [((1, []), .inr (.inl 13))])))) (.branch 16 (.leaf (14, 104, 7, .inr 3, [((1, []), zaI), ((3, []), .inr (.inr (.inr (.inl (0, 540))))), ((5, []), .inr (.inl 16))])) (.branch 22 (.leaf (17, 0, 540, .inr 1, [])) (.leaf (23, 105, 6, .inr 3, [((0, []), zaI), ((1, []), .inr (.inr (.inr (.inl (0, 1600))))), ((2, []), .inr (.inr (.inr (.inl (0, 1600))))), ((3, []), zaI), ((4, []), .inr (.inl 7)), ((5, []), .inr (.inr (.inr (.inl (0, 1600)))))])))), zw_43, [], zp_43.map (fun p => p.1))
def zu_43 : List zCu := [(([(40, 5, [(2, .inl (0, [(0, 1)])), (0, .inr (.inl 8)), (1, .inl (3, []))], [])], .branch 13 (.branch 8 (.leaf (8, 1, 1600, .inl ((-128), 127), [])) (.branch 9 (.leaf (9, 101, 8, .inr 3, [((0, []), .inr (.inl 9)), ((3, []), .inr (.inl 22)), ((1, []), zaI), ((2, []), zaI), ((5, []), .inr (.inr (.inr (.inl (0, 30)))))])) (.leaf (10, 102, 11, .inr 3, [((1, []), .inr (.inl 13))])))) (.branch 16 (.leaf (14, 104, 7, .inr 3, [((5, []), .inr (.inl 16)), ((1, []), zaI), ((3, []), .inr (.inr (.inr (.inl (0, 540)))))])) (.branch 22 (.leaf (17, 0, 540, .inr 1, [])) (.leaf (23, 105, 6, .inr 3, [((4, []), .inr (.inl 7)), ((5, []), .inr (.inr (.inr (.inl (0, 1600))))), ((0, []), zaI), ((1, []), .inr (.inr (.inr (.inl (0, 1600))))), ((2, []), .inr (.inr (.inr (.inl (0, 1600))))), ((3, []), zaI)])))), [(0, 30)], [], []), [.inl (0, 2)], (30, [(0, (-1))]))]
def zs_43 : List zCt := [zc_42, zc_5]
theorem za_43 : zwin zw_43 zc_43.2.2.2.2.2.1 = true := by decide +kernel
theorem z0_43 : zst0 mi_P zw_43 [] [] (fun d y as t en => zcal zw_43 d y as t en zs_43) zc_43 zp_43 zu_43 292 = true := by decide +kernel
theorem zk_43 : zu_43.all (zck mi_P zc_43.2.1 zw_43 false [] [] (fun d y as t en => zcal zw_43 d y as t en zs_43) zc_43.2.2.2.1.length zc_43.2.2.2.1 zc_43.2.2.2.2.2.1 zp_43 zu_43 292) = true := by decide +kernel
theorem zt_43 {S : Nat × (Nat → Int32)} : zCtr mi_P S zTt zc_43 := by
  have hc : ∀ c ∈ zs_43, zCtr mi_P S zTt c := by
    intro c hc
    simp only [zs_43, List.mem_cons, List.not_mem_nil, or_false] at hc
    rcases hc with rfl | rfl
    · exact zt_42
    · exact zt_5
  exact zCtr_of (Om := zTt) (ct := zc_43) (ps := zp_43) (fun _ _ _ _ => trivial) rfl hc za_43 z0_43 zk_43
/-- L$Reader.readOrs(I)V -/
def zw_44 : zW := .branch 16 (.branch 13 (.leaf (9, [1, 2, 5])) (.leaf (14, [1, 3]))) (.branch 22 (.leaf (17, [0])) (.leaf (23, [0, 1, 2, 3])))
def zp_44 : List (zPo × List (Nat ⊕ (Nat × zL))) := [(([], [], [(8, [((1, []), zaI), ((2, []), zaI), ((5, []), .inr (.inr (.inr (.inl (0, 30)))))]), (13, [((1, []), zaI), ((3, []), .inr (.inr (.inr (.inl (0, 540)))))]), (16, []), (22, [((0, []), zaI), ((1, []), .inr (.inr (.inr (.inl (0, 1600))))), ((2, []), .inr (.inr (.inr (.inl (0, 1600))))), ((3, []), zaI)])], none), [])]
def zc_44 : zCt := (39, 41, [.inr (.inl 8), .inl (3, [])], [], [], .branch 13 (.branch 8 (.leaf (8, 1, 1600, .inl ((-128), 127), [])) (.branch 9 (.leaf (9, 101, 8, .inr 3, [((0, []), .inr (.inl 9)), ((1, []), zaI), ((2, []), zaI), ((3, []), .inr (.inl 22)), ((5, []), .inr (.inr (.inr (.inl (0, 30)))))])) (.leaf (10, 102, 11, .inr 3, [((1, []), .inr (.inl 13))])))) (.branch 16 (.leaf (14, 104, 7, .inr 3, [((1, []), zaI), ((3, []), .inr (.inr (.inr (.inl (0, 540))))), ((5, []), .inr (.inl 16))])) (.branch 22 (.leaf (17, 0, 540, .inr 1, [])) (.leaf (23, 105, 6, .inr 3, [((0, []), zaI), ((1, []), .inr (.inr (.inr (.inl (0, 1600))))), ((2, []), .inr (.inr (.inr (.inl (0, 1600))))), ((3, []), zaI), ((4, []), .inr (.inl 7)), ((5, []), .inr (.inr (.inr (.inl (0, 1600)))))])))), zw_44, [], zp_44.map (fun p => p.1))
def zu_44 : List zCu := [(([(39, 5, [(2, .inl (0, [(0, 1)])), (0, .inr (.inl 8)), (1, .inl (3, []))], [])], .branch 13 (.branch 8 (.leaf (8, 1, 1600, .inl ((-128), 127), [])) (.branch 9 (.leaf (9, 101, 8, .inr 3, [((0, []), .inr (.inl 9)), ((3, []), .inr (.inl 22)), ((1, []), zaI), ((2, []), zaI), ((5, []), .inr (.inr (.inr (.inl (0, 30)))))])) (.leaf (10, 102, 11, .inr 3, [((1, []), .inr (.inl 13))])))) (.branch 16 (.leaf (14, 104, 7, .inr 3, [((5, []), .inr (.inl 16)), ((1, []), zaI), ((3, []), .inr (.inr (.inr (.inl (0, 540)))))])) (.branch 22 (.leaf (17, 0, 540, .inr 1, [])) (.leaf (23, 105, 6, .inr 3, [((4, []), .inr (.inl 7)), ((5, []), .inr (.inr (.inr (.inl (0, 1600))))), ((0, []), zaI), ((1, []), .inr (.inr (.inr (.inl (0, 1600))))), ((2, []), .inr (.inr (.inr (.inl (0, 1600))))), ((3, []), zaI)])))), [(0, 30)], [], []), [.inl (0, 2)], (30, [(0, (-1))]))]
def zs_44 : List zCt := [zc_43, zc_5]
theorem za_44 : zwin zw_44 zc_44.2.2.2.2.2.1 = true := by decide +kernel
theorem z0_44 : zst0 mi_P zw_44 [] [] (fun d y as t en => zcal zw_44 d y as t en zs_44) zc_44 zp_44 zu_44 292 = true := by decide +kernel
theorem zk_44 : zu_44.all (zck mi_P zc_44.2.1 zw_44 false [] [] (fun d y as t en => zcal zw_44 d y as t en zs_44) zc_44.2.2.2.1.length zc_44.2.2.2.1 zc_44.2.2.2.2.2.1 zp_44 zu_44 292) = true := by decide +kernel
theorem zt_44 {S : Nat × (Nat → Int32)} : zCtr mi_P S zTt zc_44 := by
  have hc : ∀ c ∈ zs_44, zCtr mi_P S zTt c := by
    intro c hc
    simp only [zs_44, List.mem_cons, List.not_mem_nil, or_false] at hc
    rcases hc with rfl | rfl
    · exact zt_43
    · exact zt_5
  exact zCtr_of (Om := zTt) (ct := zc_44) (ps := zp_44) (fun _ _ _ _ => trivial) rfl hc za_44 z0_44 zk_44
