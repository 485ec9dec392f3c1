/-- L$Reader.readParty(I)V -/
def zw_5068 : zW := .branch 19 (.branch 9 (.leaf (9, [1, 2])) (.branch 12 (.leaf (10, [7])) (.leaf (13, [0])))) (.branch 21 (.branch 20 (.leaf (20, [0])) (.leaf (21, [0]))) (.branch 22 (.leaf (22, [0])) (.leaf (23, [0, 1, 2, 3]))))
def zp_5068 : List (zPo × List (Nat ⊕ (Nat × zL))) := [(([], [], [(8, [((1, []), zaI), ((2, []), zaI)]), (9, [((7, []), .inr (.inr (.inr (.inl (0, 12)))))]), (12, []), (19, []), (20, []), (21, []), (22, [((0, []), zaI), ((1, []), .inr (.inr (.inr (.inl (0, 1600))))), ((2, []), .inr (.inr (.inr (.inl (0, 1600))))), ((3, []), zaI)])], none), [])]
def zc_5068 : zCt := (49, 8, [.inr (.inl 8), .inr (.inr (.inr (.inl (0, 11))))], [], [], .branch 12 (.branch 9 (.branch 8 (.leaf (8, 1, 1600, .inl ((-128), 127), [])) (.leaf (9, 101, 8, .inr 3, [((0, []), .inr (.inl 9)), ((1, []), zaI), ((2, []), zaI), ((3, []), .inr (.inl 22))]))) (.branch 10 (.leaf (10, 102, 11, .inr 3, [((0, []), .inr (.inl 10)), ((7, []), .inr (.inr (.inr (.inl (0, 12))))), ((8, []), .inr (.inl 19)), ((9, []), .inr (.inl 20)), ((10, []), .inr (.inl 21))])) (.leaf (11, 103, 5, .inr 3, [((4, []), .inr (.inl 12))])))) (.branch 20 (.branch 19 (.leaf (13, 0, 12, .inl ((-2147483648), 2147483647), [])) (.leaf (20, 0, 12, .inl ((-2147483648), 2147483647), []))) (.branch 21 (.leaf (21, 0, 12, .inl ((-2147483648), 2147483647), [])) (.branch 22 (.leaf (22, 0, 12, .inl ((-2147483648), 2147483647), [])) (.leaf (23, 105, 6, .inr 3, [((0, []), zaI), ((1, []), .inr (.inr (.inr (.inl (0, 1600))))), ((2, []), .inr (.inr (.inr (.inl (0, 1600))))), ((3, []), zaI), ((4, []), .inr (.inl 7)), ((5, []), .inr (.inr (.inr (.inl (0, 1600)))))]))))), zw_5068, [], zp_5068.map (fun p => p.1))
def zu_5068 : List zCu := []
def zs_5068 : List zCt := [zc_5009, zc_5008, zc_5005]
theorem za_5068 : zwin zw_5068 zc_5068.2.2.2.2.2.1 = true := by decide +kernel
theorem z0_5068 : zst0 mi_P zw_5068 [] [] (fun d y as t en => zcal zw_5068 d y as t en zs_5068) zc_5068 zp_5068 zu_5068 544 = true := by decide +kernel
theorem zk_5068 : zu_5068.all (zck mi_P zc_5068.2.1 zw_5068 false [] [] (fun d y as t en => zcal zw_5068 d y as t en zs_5068) zc_5068.2.2.2.1.length zc_5068.2.2.2.1 zc_5068.2.2.2.2.2.1 zp_5068 zu_5068 544) = true := by decide +kernel
theorem zt_5068 {S : Nat × (Nat → Int32)} : zCtr mi_P S zTt zc_5068 := by
  have hc : ∀ c ∈ zs_5068, zCtr mi_P S zTt c := by
    intro c hc
    simp only [zs_5068, List.mem_cons, List.not_mem_nil, or_false] at hc
    rcases hc with rfl | rfl | rfl
    · exact zt_5009
    · exact zt_5008
    · exact zt_5005
  exact zCtr_of (Om := zTt) (ct := zc_5068) (ps := zp_5068) (fun _ _ _ _ => trivial) rfl hc za_5068 z0_5068 zk_5068
/-- L$Reader.readLine()V -/
def zw_5069 : zW := .branch 16 (.branch 11 (.branch 9 (.leaf (9, [1, 2, 4, 5])) (.branch 10 (.leaf (10, [2, 3, 4, 5, 7])) (.leaf (11, [0, 1, 2])))) (.branch 13 (.branch 12 (.leaf (12, [0])) (.leaf (13, [0]))) (.branch 15 (.leaf (14, [1, 2, 3])) (.leaf (16, [0]))))) (.branch 21 (.branch 19 (.branch 18 (.leaf (17, [0])) (.leaf (19, [0]))) (.branch 20 (.leaf (20, [0])) (.leaf (21, [0])))) (.branch 24 (.branch 22 (.leaf (22, [0])) (.leaf (23, [0, 1, 2, 3]))) (.branch 25 (.leaf (25, [0])) (.leaf (26, [0])))))
def zp_5069 : List (zPo × List (Nat ⊕ (Nat × zL))) := [(([], [], [(8, [((1, []), zaI), ((2, []), zaI), ((4, []), zaI), ((5, []), .inr (.inr (.inr (.inl (0, 30)))))]), (9, [((2, []), .inr (.inr (.inr (.inl (0, 1))))), ((3, []), zaI), ((4, []), zaI), ((5, []), .inr (.inr (.inr (.inl (0, 4))))), ((7, []), .inr (.inr (.inr (.inl (0, 12)))))]), (10, [((0, []), zaI), ((1, []), .inr (.inr (.inr (.inl (0, 1))))), ((2, []), zaI)]), (11, []), (12, []), (13, [((1, []), zaI), ((2, []), .inr (.inr (.inr (.inl (0, 4))))), ((3, []), .inr (.inr (.inr (.inl (0, 540)))))]), (15, []), (16, []), (18, []), (19, []), (20, []), (21, []), (22, [((0, []), zaI), ((1, []), .inr (.inr (.inr (.inl (0, 1600))))), ((2, []), .inr (.inr (.inr (.inl (0, 1600))))), ((3, []), zaI)]), (24, []), (25, [])], none), [])]
def zc_5069 : zCt := (28, 64, [.inr (.inl 8)], [], [], .branch 16 (.branch 11 (.branch 9 (.branch 8 (.leaf (8, 1, 1600, .inl ((-128), 127), [])) (.leaf (9, 101, 8, .inr 3, [((0, []), .inr (.inl 9)), ((1, []), zaI), ((2, []), zaI), ((3, []), .inr (.inl 22)), ((4, []), zaI), ((5, []), .inr (.inr (.inr (.inl (0, 30))))), ((6, []), .inr (.inl 24)), ((7, []), .inr (.inl 25))]))) (.branch 10 (.leaf (10, 102, 11, .inr 3, [((0, []), .inr (.inl 10)), ((1, []), .inr (.inl 13)), ((2, []), .inr (.inr (.inr (.inl (0, 1))))), ((3, []), zaI), ((4, []), zaI), ((5, []), .inr (.inr (.inr (.inl (0, 4))))), ((6, []), .inr (.inl 18)), ((7, []), .inr (.inr (.inr (.inl (0, 12))))), ((8, []), .inr (.inl 19)), ((9, []), .inr (.inl 20)), ((10, []), .inr (.inl 21))])) (.leaf (11, 103, 5, .inr 3, [((0, []), zaI), ((1, []), .inr (.inr (.inr (.inl (0, 1))))), ((2, []), zaI), ((3, []), .inr (.inl 11)), ((4, []), .inr (.inl 12))])))) (.branch 13 (.branch 12 (.leaf (12, 0, 2, .inl ((-2147483648), 2147483647), [])) (.leaf (13, 0, 12, .inl ((-2147483648), 2147483647), []))) (.branch 15 (.leaf (14, 104, 7, .inr 3, [((1, []), zaI), ((2, []), .inr (.inr (.inr (.inl (0, 4))))), ((3, []), .inr (.inr (.inr (.inl (0, 540))))), ((4, []), .inr (.inl 15)), ((5, []), .inr (.inl 16))])) (.leaf (16, 0, 5, .inl (0, 540), []))))) (.branch 21 (.branch 19 (.branch 18 (.leaf (17, 0, 540, .inr 1, [])) (.leaf (19, 0, 4, .inl ((-2147483648), 2147483647), []))) (.branch 20 (.leaf (20, 0, 12, .inl ((-2147483648), 2147483647), [])) (.leaf (21, 0, 12, .inl ((-2147483648), 2147483647), [])))) (.branch 24 (.branch 22 (.leaf (22, 0, 12, .inl ((-2147483648), 2147483647), [])) (.leaf (23, 105, 6, .inr 3, [((0, []), zaI), ((1, []), .inr (.inr (.inr (.inl (0, 1600))))), ((2, []), .inr (.inr (.inr (.inl (0, 1600))))), ((3, []), zaI), ((4, []), .inr (.inl 7)), ((5, []), .inr (.inr (.inr (.inl (0, 1600)))))]))) (.branch 25 (.leaf (25, 0, 4, .inl (0, 1600), [])) (.leaf (26, 0, 4, .inl (0, 1600), []))))), zw_5069, [], zp_5069.map (fun p => p.1))
def zu_5069 : List zCu := []
def zs_5069 : List zCt := [zc_5007, zc_5005, zc_5009, zc_5008, zc_5068, zc_5067]
theorem za_5069 : zwin zw_5069 zc_5069.2.2.2.2.2.1 = true := by decide +kernel
theorem z0_5069 : zst0 mi_P zw_5069 [] [] (fun d y as t en => zcal zw_5069 d y as t en zs_5069) zc_5069 zp_5069 zu_5069 728 = true := by decide +kernel
theorem zk_5069 : zu_5069.all (zck mi_P zc_5069.2.1 zw_5069 false [] [] (fun d y as t en => zcal zw_5069 d y as t en zs_5069) zc_5069.2.2.2.1.length zc_5069.2.2.2.1 zc_5069.2.2.2.2.2.1 zp_5069 zu_5069 728) = true := by decide +kernel
theorem zt_5069 {S : Nat × (Nat → Int32)} : zCtr mi_P S zTt zc_5069 := by
  have hc : ∀ c ∈ zs_5069, zCtr mi_P S zTt c := by
    intro c hc
    simp only [zs_5069, List.mem_cons, List.not_mem_nil, or_false] at hc
    rcases hc with rfl | rfl | rfl | rfl | rfl | rfl
    · exact zt_5007
    · exact zt_5005
    · exact zt_5009
    · exact zt_5008
    · exact zt_5068
    · exact zt_5067
  exact zCtr_of (Om := zTt) (ct := zc_5069) (ps := zp_5069) (fun _ _ _ _ => trivial) rfl hc za_5069 z0_5069 zk_5069
/-- L$Reader.read([BI)Z -/
def zw_5070 : zW := .branch 16 (.branch 11 (.branch 9 (.leaf (9, [1, 2, 4, 5])) (.branch 10 (.leaf (10, [2, 3, 4, 5, 7])) (.leaf (11, [0, 1, 2])))) (.branch 13 (.branch 12 (.leaf (12, [0])) (.leaf (13, [0]))) (.branch 15 (.leaf (14, [1, 2, 3])) (.leaf (16, [0]))))) (.branch 21 (.branch 19 (.branch 18 (.leaf (17, [0])) (.leaf (19, [0]))) (.branch 20 (.leaf (20, [0])) (.leaf (21, [0])))) (.branch 24 (.branch 22 (.leaf (22, [0])) (.leaf (23, [0, 1, 2, 3, 4, 5]))) (.branch 25 (.leaf (25, [0])) (.leaf (26, [0])))))
def zp_5070 : List (zPo × List (Nat ⊕ (Nat × zL))) := [(([], [], [(8, [((1, []), zaI), ((2, []), zaI), ((4, []), zaI), ((5, []), .inr (.inr (.inr (.inl (0, 30)))))]), (9, [((2, []), .inr (.inr (.inr (.inl (0, 1))))), ((3, []), zaI), ((4, []), zaI), ((5, []), .inr (.inr (.inr (.inl (0, 4))))), ((7, []), .inr (.inr (.inr (.inl (0, 12)))))]), (10, [((0, []), zaI), ((1, []), .inr (.inr (.inr (.inl (0, 1))))), ((2, []), zaI)]), (11, []), (12, []), (13, [((1, []), zaI), ((2, []), .inr (.inr (.inr (.inl (0, 4))))), ((3, []), .inr (.inr (.inr (.inl (0, 540)))))]), (15, []), (16, []), (18, []), (19, []), (20, []), (21, []), (22, [((0, []), zaI), ((1, []), .inr (.inr (.inr (.inl (0, 1600))))), ((2, []), .inr (.inr (.inr (.inl (0, 1600))))), ((3, []), zaI), ((4, []), .inr (.inl 7)), ((5, []), .inr (.inr (.inr (.inl (0, 1600)))))]), (24, []), (25, [])], some (.inr (.inr (.inr (.inl (0, 1)))))), [])]
def zc_5070 : zCt := (17, 65, [.inr (.inl 8), .inr (.inl 7), .inr (.inr (.inr (.inl (0, 1600))))], [], [], .branch 16 (.branch 11 (.branch 9 (.branch 8 (.leaf (8, 1, 1600, .inl ((-128), 127), [])) (.leaf (9, 101, 8, .inr 3, [((0, []), .inr (.inl 9)), ((1, []), zaI), ((2, []), zaI), ((3, []), .inr (.inl 22)), ((4, []), zaI), ((5, []), .inr (.inr (.inr (.inl (0, 30))))), ((6, []), .inr (.inl 24)), ((7, []), .inr (.inl 25))]))) (.branch 10 (.leaf (10, 102, 11, .inr 3, [((0, []), .inr (.inl 10)), ((1, []), .inr (.inl 13)), ((2, []), .inr (.inr (.inr (.inl (0, 1))))), ((3, []), zaI), ((4, []), zaI), ((5, []), .inr (.inr (.inr (.inl (0, 4))))), ((6, []), .inr (.inl 18)), ((7, []), .inr (.inr (.inr (.inl (0, 12))))), ((8, []), .inr (.inl 19)), ((9, []), .inr (.inl 20)), ((10, []), .inr (.inl 21))])) (.leaf (11, 103, 5, .inr 3, [((0, []), zaI), ((1, []), .inr (.inr (.inr (.inl (0, 1))))), ((2, []), zaI), ((3, []), .inr (.inl 11)), ((4, []), .inr (.inl 12))])))) (.branch 13 (.branch 12 (.leaf (12, 0, 2, .inl ((-2147483648), 2147483647), [])) (.leaf (13, 0, 12, .inl ((-2147483648), 2147483647), []))) (.branch 15 (.leaf (14, 104, 7, .inr 3, [((1, []), zaI), ((2, []), .inr (.inr (.inr (.inl (0, 4))))), ((3, []), .inr (.inr (.inr (.inl (0, 540))))), ((4, []), .inr (.inl 15)), ((5, []), .inr (.inl 16))])) (.leaf (16, 0, 5, .inl (0, 540), []))))) (.branch 21 (.branch 19 (.branch 18 (.leaf (17, 0, 540, .inr 1, [])) (.leaf (19, 0, 4, .inl ((-2147483648), 2147483647), []))) (.branch 20 (.leaf (20, 0, 12, .inl ((-2147483648), 2147483647), [])) (.leaf (21, 0, 12, .inl ((-2147483648), 2147483647), [])))) (.branch 24 (.branch 22 (.leaf (22, 0, 12, .inl ((-2147483648), 2147483647), [])) (.leaf (23, 105, 6, .inr 3, [((0, []), zaI), ((1, []), .inr (.inr (.inr (.inl (0, 1600))))), ((2, []), .inr (.inr (.inr (.inl (0, 1600))))), ((3, []), zaI), ((4, []), .inr (.inr (.inr (.inr 3)))), ((5, []), .inr (.inr (.inr (.inl (0, 1600)))))]))) (.branch 25 (.leaf (25, 0, 4, .inl (0, 1600), [])) (.leaf (26, 0, 4, .inl (0, 1600), []))))), zw_5070, [], zp_5070.map (fun p => p.1))
def zu_5070 : List zCu := [(([(17, 19, [(3, .inl (0, [(1, 1)])), (0, .inr (.inl 8)), (1, .inr (.inl 7)), (2, .inl (0, [(0, 1)]))], [])], .branch 16 (.branch 11 (.branch 9 (.branch 8 (.leaf (8, 1, 1600, .inl ((-128), 127), [])) (.leaf (9, 101, 8, .inr 3, [((0, []), .inr (.inl 9)), ((3, []), .inr (.inl 22)), ((5, []), .inr (.inr (.inr (.inl (0, 30))))), ((6, []), .inr (.inl 24)), ((7, []), .inr (.inl 25)), ((1, []), zaI), ((2, []), zaI), ((4, []), zaI)]))) (.branch 10 (.leaf (10, 102, 11, .inr 3, [((0, []), .inr (.inl 10)), ((1, []), .inr (.inl 13)), ((6, []), .inr (.inl 18)), ((8, []), .inr (.inl 19)), ((9, []), .inr (.inl 20)), ((10, []), .inr (.inl 21)), ((2, []), .inr (.inr (.inr (.inl (0, 1))))), ((3, []), zaI), ((4, []), zaI), ((5, []), .inr (.inr (.inr (.inl (0, 4))))), ((7, []), .inr (.inr (.inr (.inl (0, 12)))))])) (.leaf (11, 103, 5, .inr 3, [((3, []), .inr (.inl 11)), ((4, []), .inr (.inl 12)), ((0, []), zaI), ((1, []), .inr (.inr (.inr (.inl (0, 1))))), ((2, []), zaI)])))) (.branch 13 (.branch 12 (.leaf (12, 0, 2, .inl ((-2147483648), 2147483647), [])) (.leaf (13, 0, 12, .inl ((-2147483648), 2147483647), []))) (.branch 15 (.leaf (14, 104, 7, .inr 3, [((4, []), .inr (.inl 15)), ((5, []), .inr (.inl 16)), ((1, []), zaI), ((2, []), .inr (.inr (.inr (.inl (0, 4))))), ((3, []), .inr (.inr (.inr (.inl (0, 540)))))])) (.leaf (16, 0, 5, .inl (0, 540), []))))) (.branch 21 (.branch 19 (.branch 18 (.leaf (17, 0, 540, .inr 1, [])) (.leaf (19, 0, 4, .inl ((-2147483648), 2147483647), []))) (.branch 20 (.leaf (20, 0, 12, .inl ((-2147483648), 2147483647), [])) (.leaf (21, 0, 12, .inl ((-2147483648), 2147483647), [])))) (.branch 24 (.branch 22 (.leaf (22, 0, 12, .inl ((-2147483648), 2147483647), [])) (.leaf (23, 105, 6, .inr 3, [((4, []), .inr (.inl 7)), ((5, []), .inl (0, [(0, 1)])), ((0, []), zaI), ((1, []), .inr (.inr (.inr (.inl (0, 1600))))), ((2, []), .inr (.inr (.inr (.inl (0, 1600))))), ((3, []), zaI)]))) (.branch 25 (.leaf (25, 0, 4, .inl (0, 1600), [])) (.leaf (26, 0, 4, .inl (0, 1600), []))))), [(0, 1600), (0, 1600)], [], []), [.inl (0, 2), .inl (0, 3)], (1600, [(1, (-1))]))]
def zs_5070 : List zCt := [zc_5005, zc_5069]
theorem za_5070 : zwin zw_5070 zc_5070.2.2.2.2.2.1 = true := by decide +kernel
theorem z0_5070 : zst0 mi_P zw_5070 [] [] (fun d y as t en => zcal zw_5070 d y as t en zs_5070) zc_5070 zp_5070 zu_5070 414 = true := by decide +kernel
theorem zk_5070 : zu_5070.all (zck mi_P zc_5070.2.1 zw_5070 false [] [] (fun d y as t en => zcal zw_5070 d y as t en zs_5070) zc_5070.2.2.2.1.length zc_5070.2.2.2.1 zc_5070.2.2.2.2.2.1 zp_5070 zu_5070 414) = true := by decide +kernel
theorem zt_5070 {S : Nat × (Nat → Int32)} : zCtr mi_P S zTt zc_5070 := by
  have hc : ∀ c ∈ zs_5070, zCtr mi_P S zTt c := by
    intro c hc
    simp only [zs_5070, List.mem_cons, List.not_mem_nil, or_false] at hc
    rcases hc with rfl | rfl
    · exact zt_5005
    · exact zt_5069
  exact zCtr_of (Om := zTt) (ct := zc_5070) (ps := zp_5070) (fun _ _ _ _ => trivial) rfl hc za_5070 z0_5070 zk_5070
/-- L$Formulas.odds(I)I -/
def zw_5071 : zW := .leaf (375, [0])
def zp_5071 : List (zPo × List (Nat ⊕ (Nat × zL))) := [(([], [], [(374, [])], some (.inr (.inr (.inr (.inl (0, 100)))))), [])]
def zc_5071 : zCt := (67, 1, [.inr (.inl 370), .inr (.inr (.inr (.inl (0, 3))))], [], [], .branch 372 (.branch 371 (.leaf (371, 104, 7, .inr 3, [((0, []), .inr (.inl 371)), ((4, []), .inr (.inl 372)), ((5, []), .inr (.inl 373)), ((6, []), .inr (.inl 374))])) (.leaf (372, 0, 6, .inl ((-2147483648), 2147483647), []))) (.branch 373 (.leaf (373, 0, 5, .inl (0, 540), [])) (.branch 374 (.leaf (374, 0, 540, .inr 1, [])) (.leaf (375, 0, 30, .inl ((-2147483648), 2147483647), [])))), zw_5071, [], zp_5071.map (fun p => p.1))
def zu_5071 : List zCu := [(([(67, 7, [(3, .inl (0, [(1, 1)])), (2, .inl (0, [(2, 1)])), (0, .inr (.inl 370)), (1, .inl (0, [(0, 1)]))], [])], .branch 372 (.branch 371 (.leaf (371, 104, 7, .inr 3, [((0, []), .inr (.inl 371)), ((4, []), .inr (.inl 372)), ((5, []), .inr (.inl 373)), ((6, []), .inr (.inl 374))])) (.leaf (372, 0, 6, .inl ((-2147483648), 2147483647), []))) (.branch 373 (.leaf (373, 0, 5, .inl (0, 540), [])) (.branch 374 (.leaf (374, 0, 540, .inr 1, [])) (.leaf (375, 0, 30, .inl ((-2147483648), 2147483647), [])))), [(0, 3), (0, 540), (0, 30)], [], []), [.inl (0, 1), .inl (0, 3), .inl (0, 2)], (540, [(1, (-1))]))]
def zs_5071 : List zCt := []
theorem za_5071 : zwin zw_5071 zc_5071.2.2.2.2.2.1 = true := by decide +kernel
theorem z0_5071 : zst0 mi_P zw_5071 [(68, 3), (68, 5), (68, 11), (68, 13), (68, 52), (68, 60)] [] (fun d y as t en => zcal zw_5071 d y as t en zs_5071) zc_5071 zp_5071 zu_5071 906 = true := by decide +kernel
theorem zk_5071 : zu_5071.all (zck mi_P zc_5071.2.1 zw_5071 false [(68, 3), (68, 5), (68, 11), (68, 13), (68, 52), (68, 60)] [] (fun d y as t en => zcal zw_5071 d y as t en zs_5071) zc_5071.2.2.2.1.length zc_5071.2.2.2.1 zc_5071.2.2.2.2.2.1 zp_5071 zu_5071 906) = true := by decide +kernel
theorem zt_5071 {S : Nat × (Nat → Int32)} : zCtr mi_P S zTt zc_5071 := by
  have hc : ∀ c ∈ zs_5071, zCtr mi_P S zTt c := fun c hc => by cases hc
  exact zCtr_of (Om := zTt) (ct := zc_5071) (ps := zp_5071) (fun _ _ _ _ => trivial) rfl hc za_5071 z0_5071 zk_5071
/-- L$Now.draw()I -/
def zw_5072 : zW := .leaf (384, [2])
def zp_5072 : List (zPo × List (Nat ⊕ (Nat × zL))) := [(([], [], [(383, [((2, []), zaI)])], some (.inr (.inr (.inr (.inl ((-99), 99)))))), [])]
def zc_5072 : zCt := (84, 0, [.inr (.inl 383)], [], [], .leaf (384, 107, 14, .inr 3, [((2, []), zaI)]), zw_5072, [], zp_5072.map (fun p => p.1))
def zu_5072 : List zCu := []
def zs_5072 : List zCt := []
theorem za_5072 : zwin zw_5072 zc_5072.2.2.2.2.2.1 = true := by decide +kernel
theorem z0_5072 : zst0 mi_P zw_5072 [] [] (fun d y as t en => zcal zw_5072 d y as t en zs_5072) zc_5072 zp_5072 zu_5072 228 = true := by decide +kernel
theorem zk_5072 : zu_5072.all (zck mi_P zc_5072.2.1 zw_5072 false [] [] (fun d y as t en => zcal zw_5072 d y as t en zs_5072) zc_5072.2.2.2.1.length zc_5072.2.2.2.1 zc_5072.2.2.2.2.2.1 zp_5072 zu_5072 228) = true := by decide +kernel
theorem zt_5072 {S : Nat × (Nat → Int32)} : zCtr mi_P S zTt zc_5072 := by
  have hc : ∀ c ∈ zs_5072, zCtr mi_P S zTt c := fun c hc => by cases hc
  exact zCtr_of (Om := zTt) (ct := zc_5072) (ps := zp_5072) (fun _ _ _ _ => trivial) rfl hc za_5072 z0_5072 zk_5072
/-- L$Now.leaveRow(II)V -/
def zw_5073 : zW := .branch 389 (.leaf (389, [0])) (.leaf (390, [0]))
def zp_5073 : List (zPo × List (Nat ⊕ (Nat × zL))) := [(([], [], [(388, []), (389, [])], none), [])]
def zc_5073 : zCt := (86, 0, [.inr (.inl 383), .inl (2, []), zaI], [], [], .branch 388 (.leaf (384, 107, 14, .inr 3, [((11, []), .inr (.inl 388)), ((12, []), .inr (.inl 389))])) (.branch 389 (.leaf (389, 0, 3, .inl (0, 12), [])) (.leaf (390, 0, 36, .inl (0, 11), []))), zw_5073, [], zp_5073.map (fun p => p.1))
def zu_5073 : List zCu := [(([(86, 8, [(5, .inl (0, [(1, 1)])), (4, .inl (24, [])), (3, .inl (0, [(2, 1)])), (0, .inr (.inl 383)), (1, .inl (2, [])), (2, .inl (0, [(0, 1)]))], [])], .branch 388 (.leaf (384, 107, 14, .inr 3, [((11, []), .inr (.inl 388)), ((12, []), .inr (.inl 389))])) (.branch 389 (.leaf (389, 0, 3, .inl (0, 12), [])) (.leaf (390, 0, 36, .inl (0, 11), []))), [((-2147483648), 2147483647), (0, 12), (0, 12)], [(0, [(1, (-1)), (2, 1)])], []), [.inl (0, 2), .inl (0, 5), .inl (0, 3)], (12, [(1, (-1))]))]
def zs_5073 : List zCt := []
theorem za_5073 : zwin zw_5073 zc_5073.2.2.2.2.2.1 = true := by decide +kernel
theorem z0_5073 : zst0 mi_P zw_5073 [] [] (fun d y as t en => zcal zw_5073 d y as t en zs_5073) zc_5073 zp_5073 zu_5073 272 = true := by decide +kernel
theorem zk_5073 : zu_5073.all (zck mi_P zc_5073.2.1 zw_5073 false [] [] (fun d y as t en => zcal zw_5073 d y as t en zs_5073) zc_5073.2.2.2.1.length zc_5073.2.2.2.1 zc_5073.2.2.2.2.2.1 zp_5073 zu_5073 272) = true := by decide +kernel
theorem zt_5073 {S : Nat × (Nat → Int32)} : zCtr mi_P S zTt zc_5073 := by
  have hc : ∀ c ∈ zs_5073, zCtr mi_P S zTt c := fun c hc => by cases hc
  exact zCtr_of (Om := zTt) (ct := zc_5073) (ps := zp_5073) (fun _ _ _ _ => trivial) rfl hc za_5073 z0_5073 zk_5073
/-- L$Now.leaveRow(II)V -/
def zw_5074 : zW := .branch 389 (.leaf (389, [0])) (.leaf (390, [0]))
def zp_5074 : List (zPo × List (Nat ⊕ (Nat × zL))) := [(([], [], [(388, []), (389, [])], none), [])]
def zc_5074 : zCt := (86, 0, [.inr (.inl 383), .inl (0, []), zaI], [], [], .branch 388 (.leaf (384, 107, 14, .inr 3, [((11, []), .inr (.inl 388)), ((12, []), .inr (.inl 389))])) (.branch 389 (.leaf (389, 0, 3, .inl (0, 12), [])) (.leaf (390, 0, 36, .inl (0, 11), []))), zw_5074, [], zp_5074.map (fun p => p.1))
def zu_5074 : List zCu := [(([(86, 8, [(5, .inl (0, [(1, 1)])), (4, .inl (0, [])), (3, .inl (0, [(2, 1)])), (0, .inr (.inl 383)), (1, .inl (0, [])), (2, .inl (0, [(0, 1)]))], [])], .branch 388 (.leaf (384, 107, 14, .inr 3, [((11, []), .inr (.inl 388)), ((12, []), .inr (.inl 389))])) (.branch 389 (.leaf (389, 0, 3, .inl (0, 12), [])) (.leaf (390, 0, 36, .inl (0, 11), []))), [((-2147483648), 2147483647), (0, 12), (0, 12)], [(0, [(1, (-1)), (2, 1)])], []), [.inl (0, 2), .inl (0, 5), .inl (0, 3)], (12, [(1, (-1))]))]
def zs_5074 : List zCt := []
theorem za_5074 : zwin zw_5074 zc_5074.2.2.2.2.2.1 = true := by decide +kernel
theorem z0_5074 : zst0 mi_P zw_5074 [] [] (fun d y as t en => zcal zw_5074 d y as t en zs_5074) zc_5074 zp_5074 zu_5074 272 = true := by decide +kernel
theorem zk_5074 : zu_5074.all (zck mi_P zc_5074.2.1 zw_5074 false [] [] (fun d y as t en => zcal zw_5074 d y as t en zs_5074) zc_5074.2.2.2.1.length zc_5074.2.2.2.1 zc_5074.2.2.2.2.2.1 zp_5074 zu_5074 272) = true := by decide +kernel
theorem zt_5074 {S : Nat × (Nat → Int32)} : zCtr mi_P S zTt zc_5074 := by
  have hc : ∀ c ∈ zs_5074, zCtr mi_P S zTt c := fun c hc => by cases hc
  exact zCtr_of (Om := zTt) (ct := zc_5074) (ps := zp_5074) (fun _ _ _ _ => trivial) rfl hc za_5074 z0_5074 zk_5074
/-- L$Now.leaveRow(II)V -/
def zw_5075 : zW := .branch 389 (.leaf (389, [0])) (.leaf (390, [0]))
def zp_5075 : List (zPo × List (Nat ⊕ (Nat × zL))) := [(([], [], [(388, []), (389, [])], none), [])]
def zc_5075 : zCt := (86, 0, [.inr (.inl 383), .inl (1, []), zaI], [], [], .branch 388 (.leaf (384, 107, 14, .inr 3, [((11, []), .inr (.inl 388)), ((12, []), .inr (.inl 389))])) (.branch 389 (.leaf (389, 0, 3, .inl (0, 12), [])) (.leaf (390, 0, 36, .inl (0, 11), []))), zw_5075, [], zp_5075.map (fun p => p.1))
def zu_5075 : List zCu := [(([(86, 8, [(5, .inl (0, [(1, 1)])), (4, .inl (12, [])), (3, .inl (0, [(2, 1)])), (0, .inr (.inl 383)), (1, .inl (1, [])), (2, .inl (0, [(0, 1)]))], [])], .branch 388 (.leaf (384, 107, 14, .inr 3, [((11, []), .inr (.inl 388)), ((12, []), .inr (.inl 389))])) (.branch 389 (.leaf (389, 0, 3, .inl (0, 12), [])) (.leaf (390, 0, 36, .inl (0, 11), []))), [((-2147483648), 2147483647), (0, 12), (0, 12)], [(0, [(1, (-1)), (2, 1)])], []), [.inl (0, 2), .inl (0, 5), .inl (0, 3)], (12, [(1, (-1))]))]
def zs_5075 : List zCt := []
theorem za_5075 : zwin zw_5075 zc_5075.2.2.2.2.2.1 = true := by decide +kernel
theorem z0_5075 : zst0 mi_P zw_5075 [] [] (fun d y as t en => zcal zw_5075 d y as t en zs_5075) zc_5075 zp_5075 zu_5075 272 = true := by decide +kernel
theorem zk_5075 : zu_5075.all (zck mi_P zc_5075.2.1 zw_5075 false [] [] (fun d y as t en => zcal zw_5075 d y as t en zs_5075) zc_5075.2.2.2.1.length zc_5075.2.2.2.1 zc_5075.2.2.2.2.2.1 zp_5075 zu_5075 272) = true := by decide +kernel
theorem zt_5075 {S : Nat × (Nat → Int32)} : zCtr mi_P S zTt zc_5075 := by
  have hc : ∀ c ∈ zs_5075, zCtr mi_P S zTt c := fun c hc => by cases hc
  exact zCtr_of (Om := zTt) (ct := zc_5075) (ps := zp_5075) (fun _ _ _ _ => trivial) rfl hc za_5075 z0_5075 zk_5075
/-- L$Now.noteOnBoard(I)V -/
def zw_5076 : zW := .branch 384 (.leaf (384, [6])) (.leaf (385, [0]))
def zp_5076 : List (zPo × List (Nat ⊕ (Nat × zL))) := [(([], [], [(383, [((6, []), .inr (.inr (.inr (.inl (0, 20)))))]), (384, [])], none), [])]
def zc_5076 : zCt := (85, 0, [.inr (.inl 383), zaI], [], [], .branch 384 (.leaf (384, 107, 14, .inr 3, [((6, []), .inr (.inr (.inr (.inl (0, 20))))), ((7, []), .inr (.inl 384))])) (.leaf (385, 0, 20, .inl ((-2147483648), 2147483647), [])), zw_5076, [], zp_5076.map (fun p => p.1))
def zu_5076 : List zCu := [(([(85, 2, [(2, .inl (0, [(1, 1)])), (0, .inr (.inl 383)), (1, .inl (0, [(0, 1)]))], [])], .branch 384 (.leaf (384, 107, 14, .inr 3, [((6, []), .inr (.inr (.inr (.inl (0, 20))))), ((7, []), .inr (.inl 384))])) (.leaf (385, 0, 20, .inl ((-2147483648), 2147483647), [])), [((-2147483648), 2147483647), (0, 19)], [], []), [.inl (0, 1), .inl (0, 2)], (0, [(1, 1)]))]
def zs_5076 : List zCt := []
theorem za_5076 : zwin zw_5076 zc_5076.2.2.2.2.2.1 = true := by decide +kernel
theorem z0_5076 : zst0 mi_P zw_5076 [] [] (fun d y as t en => zcal zw_5076 d y as t en zs_5076) zc_5076 zp_5076 zu_5076 254 = true := by decide +kernel
theorem zk_5076 : zu_5076.all (zck mi_P zc_5076.2.1 zw_5076 false [] [] (fun d y as t en => zcal zw_5076 d y as t en zs_5076) zc_5076.2.2.2.1.length zc_5076.2.2.2.1 zc_5076.2.2.2.2.2.1 zp_5076 zu_5076 254) = true := by decide +kernel
theorem zt_5076 {S : Nat × (Nat → Int32)} : zCtr mi_P S zTt zc_5076 := by
  have hc : ∀ c ∈ zs_5076, zCtr mi_P S zTt c := fun c hc => by cases hc
  exact zCtr_of (Om := zTt) (ct := zc_5076) (ps := zp_5076) (fun _ _ _ _ => trivial) rfl hc za_5076 z0_5076 zk_5076
/-- L$Course.come()V -/
def zw_5077 : zW := .branch 388 (.leaf (387, [0])) (.branch 389 (.leaf (389, [0])) (.leaf (390, [0])))
def zp_5077 : List (zPo × List (Nat ⊕ (Nat × zL))) := [(([], [], [(386, []), (388, []), (389, [])], none), [])]
def zc_5077 : zCt := (79, 1, [.inr (.inl 379)], [], [], .branch 382 (.branch 379 (.branch 378 (.leaf (367, 102, 11, .inr 3, [((7, []), .inr (.inr (.inr (.inl (0, 12))))), ((10, []), .inr (.inl 378))])) (.leaf (379, 0, 12, .inl ((-2147483648), 2147483647), []))) (.branch 380 (.leaf (380, 109, 9, .inr 3, [((0, []), .inr (.inl 366)), ((1, []), .inr (.inl 380)), ((2, []), .inr (.inl 383))])) (.leaf (381, 103, 5, .inr 3, [((4, []), .inr (.inl 382))])))) (.branch 386 (.branch 383 (.leaf (383, 0, 12, .inl ((-2147483648), 2147483647), [])) (.leaf (384, 107, 14, .inr 3, [((0, []), zaI), ((9, []), .inr (.inl 386)), ((11, []), .inr (.inl 388)), ((12, []), .inr (.inl 389))]))) (.branch 388 (.leaf (387, 0, 12, .inl ((-2147483648), 2147483647), [])) (.branch 389 (.leaf (389, 0, 3, .inl (0, 12), [])) (.leaf (390, 0, 36, .inl (0, 11), []))))), zw_5077, [], zp_5077.map (fun p => p.1))
def zu_5077 : List zCu := [(([(79, 2, [(1, .inl (0, [(0, 1)])), (0, .inr (.inl 379))], [])], .branch 382 (.branch 379 (.branch 378 (.leaf (367, 102, 11, .inr 3, [((7, []), .inr (.inr (.inr (.inl (0, 12))))), ((10, []), .inr (.inl 378))])) (.leaf (379, 0, 12, .inl ((-2147483648), 2147483647), []))) (.branch 380 (.leaf (380, 109, 9, .inr 3, [((0, []), .inr (.inl 366)), ((1, []), .inr (.inl 380)), ((2, []), .inr (.inl 383))])) (.leaf (381, 103, 5, .inr 3, [((4, []), .inr (.inl 382))])))) (.branch 386 (.branch 383 (.leaf (383, 0, 12, .inl ((-2147483648), 2147483647), [])) (.leaf (384, 107, 14, .inr 3, [((0, []), zaI), ((9, []), .inr (.inl 386)), ((11, []), .inr (.inl 388)), ((12, []), .inr (.inl 389))]))) (.branch 388 (.leaf (387, 0, 12, .inl ((-2147483648), 2147483647), [])) (.branch 389 (.leaf (389, 0, 3, .inl (0, 12), [])) (.leaf (390, 0, 36, .inl (0, 11), []))))), [(0, 12)], [], []), [.inl (0, 1)], (12, [(0, (-1))]))]
def zs_5077 : List zCt := []
theorem za_5077 : zwin zw_5077 zc_5077.2.2.2.2.2.1 = true := by decide +kernel
theorem z0_5077 : zst0 mi_P zw_5077 [] [] (fun d y as t en => zcal zw_5077 d y as t en zs_5077) zc_5077 zp_5077 zu_5077 420 = true := by decide +kernel
theorem zk_5077 : zu_5077.all (zck mi_P zc_5077.2.1 zw_5077 false [] [] (fun d y as t en => zcal zw_5077 d y as t en zs_5077) zc_5077.2.2.2.1.length zc_5077.2.2.2.1 zc_5077.2.2.2.2.2.1 zp_5077 zu_5077 420) = true := by decide +kernel
theorem zt_5077 {S : Nat × (Nat → Int32)} : zCtr mi_P S zTt zc_5077 := by
  have hc : ∀ c ∈ zs_5077, zCtr mi_P S zTt c := fun c hc => by cases hc
  exact zCtr_of (Om := zTt) (ct := zc_5077) (ps := zp_5077) (fun _ _ _ _ => trivial) rfl hc za_5077 z0_5077 zk_5077
/-- L$Course.firstInLock(I)I -/
def zw_5078 : zW := .leaf (0, [])
def zp_5078 : List (zPo × List (Nat ⊕ (Nat × zL))) := [(([], [], [], some (.inr (.inr (.inr (.inl ((-1), 11)))))), [])]
def zc_5078 : zCt := (82, 1, [.inr (.inl 379), .inl (0, [])], [], [], .branch 383 (.branch 378 (.leaf (367, 102, 11, .inr 3, [((10, []), .inr (.inl 378))])) (.branch 379 (.leaf (379, 0, 12, .inl ((-2147483648), 2147483647), [])) (.leaf (380, 109, 9, .inr 3, [((0, []), .inr (.inl 366)), ((2, []), .inr (.inl 383))])))) (.branch 388 (.leaf (384, 107, 14, .inr 3, [((11, []), .inr (.inl 388)), ((12, []), .inr (.inl 389))])) (.branch 389 (.leaf (389, 0, 3, .inl (0, 12), [])) (.leaf (390, 0, 36, .inl (0, 11), [])))), zw_5078, [], zp_5078.map (fun p => p.1))
def zu_5078 : List zCu := [(([(82, 2, [(2, .inl (0, [(0, 1)])), (0, .inr (.inl 379)), (1, .inl (0, []))], [])], .branch 383 (.branch 378 (.leaf (367, 102, 11, .inr 3, [((10, []), .inr (.inl 378))])) (.branch 379 (.leaf (379, 0, 12, .inl ((-2147483648), 2147483647), [])) (.leaf (380, 109, 9, .inr 3, [((0, []), .inr (.inl 366)), ((2, []), .inr (.inl 383))])))) (.branch 388 (.leaf (384, 107, 14, .inr 3, [((11, []), .inr (.inl 388)), ((12, []), .inr (.inl 389))])) (.branch 389 (.leaf (389, 0, 3, .inl (0, 12), [])) (.leaf (390, 0, 36, .inl (0, 11), [])))), [(0, 12)], [], []), [.inl (0, 2)], (12, [(0, (-1))]))]
def zs_5078 : List zCt := []
theorem za_5078 : zwin zw_5078 zc_5078.2.2.2.2.2.1 = true := by decide +kernel
theorem z0_5078 : zst0 mi_P zw_5078 [] [] (fun d y as t en => zcal zw_5078 d y as t en zs_5078) zc_5078 zp_5078 zu_5078 282 = true := by decide +kernel
theorem zk_5078 : zu_5078.all (zck mi_P zc_5078.2.1 zw_5078 false [] [] (fun d y as t en => zcal zw_5078 d y as t en zs_5078) zc_5078.2.2.2.1.length zc_5078.2.2.2.1 zc_5078.2.2.2.2.2.1 zp_5078 zu_5078 282) = true := by decide +kernel
theorem zt_5078 {S : Nat × (Nat → Int32)} : zCtr mi_P S zTt zc_5078 := by
  have hc : ∀ c ∈ zs_5078, zCtr mi_P S zTt c := fun c hc => by cases hc
  exact zCtr_of (Om := zTt) (ct := zc_5078) (ps := zp_5078) (fun _ _ _ _ => trivial) rfl hc za_5078 z0_5078 zk_5078
/-- L$Course.firstInLock(I)I -/
def zw_5079 : zW := .leaf (0, [])
def zp_5079 : List (zPo × List (Nat ⊕ (Nat × zL))) := [(([], [], [], some (.inr (.inr (.inr (.inl ((-1), 11)))))), [])]
def zc_5079 : zCt := (82, 1, [.inr (.inl 379), .inl (1, [])], [], [], .branch 383 (.branch 378 (.leaf (367, 102, 11, .inr 3, [((10, []), .inr (.inl 378))])) (.branch 379 (.leaf (379, 0, 12, .inl ((-2147483648), 2147483647), [])) (.leaf (380, 109, 9, .inr 3, [((0, []), .inr (.inl 366)), ((2, []), .inr (.inl 383))])))) (.branch 388 (.leaf (384, 107, 14, .inr 3, [((11, []), .inr (.inl 388)), ((12, []), .inr (.inl 389))])) (.branch 389 (.leaf (389, 0, 3, .inl (0, 12), [])) (.leaf (390, 0, 36, .inl (0, 11), [])))), zw_5079, [], zp_5079.map (fun p => p.1))
def zu_5079 : List zCu := [(([(82, 2, [(2, .inl (0, [(0, 1)])), (0, .inr (.inl 379)), (1, .inl (1, []))], [])], .branch 383 (.branch 378 (.leaf (367, 102, 11, .inr 3, [((10, []), .inr (.inl 378))])) (.branch 379 (.leaf (379, 0, 12, .inl ((-2147483648), 2147483647), [])) (.leaf (380, 109, 9, .inr 3, [((0, []), .inr (.inl 366)), ((2, []), .inr (.inl 383))])))) (.branch 388 (.leaf (384, 107, 14, .inr 3, [((11, []), .inr (.inl 388)), ((12, []), .inr (.inl 389))])) (.branch 389 (.leaf (389, 0, 3, .inl (0, 12), [])) (.leaf (390, 0, 36, .inl (0, 11), [])))), [(0, 12)], [], []), [.inl (0, 2)], (12, [(0, (-1))]))]
def zs_5079 : List zCt := []
theorem za_5079 : zwin zw_5079 zc_5079.2.2.2.2.2.1 = true := by decide +kernel
theorem z0_5079 : zst0 mi_P zw_5079 [] [] (fun d y as t en => zcal zw_5079 d y as t en zs_5079) zc_5079 zp_5079 zu_5079 282 = true := by decide +kernel
theorem zk_5079 : zu_5079.all (zck mi_P zc_5079.2.1 zw_5079 false [] [] (fun d y as t en => zcal zw_5079 d y as t en zs_5079) zc_5079.2.2.2.1.length zc_5079.2.2.2.1 zc_5079.2.2.2.2.2.1 zp_5079 zu_5079 282) = true := by decide +kernel
theorem zt_5079 {S : Nat × (Nat → Int32)} : zCtr mi_P S zTt zc_5079 := by
  have hc : ∀ c ∈ zs_5079, zCtr mi_P S zTt c := fun c hc => by cases hc
  exact zCtr_of (Om := zTt) (ct := zc_5079) (ps := zp_5079) (fun _ _ _ _ => trivial) rfl hc za_5079 z0_5079 zk_5079
/-- L$Course.seatsTaken()I -/
def zw_5080 : zW := .leaf (0, [])
def zp_5080 : List (zPo × List (Nat ⊕ (Nat × zL))) := [(([], [], [], some (zaI)), [])]
def zc_5080 : zCt := (88, 1, [.inr (.inl 379)], [], [], .branch 383 (.branch 377 (.leaf (367, 102, 11, .inr 3, [((9, []), .inr (.inl 377))])) (.branch 379 (.leaf (378, 0, 12, .inl ((-2147483648), 2147483647), [])) (.leaf (380, 109, 9, .inr 3, [((0, []), .inr (.inl 366)), ((2, []), .inr (.inl 383))])))) (.branch 388 (.leaf (384, 107, 14, .inr 3, [((11, []), .inr (.inl 388)), ((12, []), .inr (.inl 389))])) (.branch 389 (.leaf (389, 0, 3, .inl (0, 12), [])) (.leaf (390, 0, 36, .inl (0, 11), [])))), zw_5080, [], zp_5080.map (fun p => p.1))
def zu_5080 : List zCu := [(([(88, 4, [(2, .inl (0, [(0, 1)])), (1, .inl (0, [(1, 1)])), (0, .inr (.inl 379))], [])], .branch 383 (.branch 377 (.leaf (367, 102, 11, .inr 3, [((9, []), .inr (.inl 377))])) (.branch 379 (.leaf (378, 0, 12, .inl ((-2147483648), 2147483647), [])) (.leaf (380, 109, 9, .inr 3, [((0, []), .inr (.inl 366)), ((2, []), .inr (.inl 383))])))) (.branch 388 (.leaf (384, 107, 14, .inr 3, [((11, []), .inr (.inl 388)), ((12, []), .inr (.inl 389))])) (.branch 389 (.leaf (389, 0, 3, .inl (0, 12), [])) (.leaf (390, 0, 36, .inl (0, 11), [])))), [(0, 12), ((-2147483648), 2147483647)], [], []), [.inl (0, 2), .inl (0, 1)], (12, [(0, (-1))]))]
def zs_5080 : List zCt := []
theorem za_5080 : zwin zw_5080 zc_5080.2.2.2.2.2.1 = true := by decide +kernel
theorem z0_5080 : zst0 mi_P zw_5080 [] [] (fun d y as t en => zcal zw_5080 d y as t en zs_5080) zc_5080 zp_5080 zu_5080 278 = true := by decide +kernel
theorem zk_5080 : zu_5080.all (zck mi_P zc_5080.2.1 zw_5080 false [] [] (fun d y as t en => zcal zw_5080 d y as t en zs_5080) zc_5080.2.2.2.1.length zc_5080.2.2.2.1 zc_5080.2.2.2.2.2.1 zp_5080 zu_5080 278) = true := by decide +kernel
theorem zt_5080 {S : Nat × (Nat → Int32)} : zCtr mi_P S zTt zc_5080 := by
  have hc : ∀ c ∈ zs_5080, zCtr mi_P S zTt c := fun c hc => by cases hc
  exact zCtr_of (Om := zTt) (ct := zc_5080) (ps := zp_5080) (fun _ _ _ _ => trivial) rfl hc za_5080 z0_5080 zk_5080
/-- L$Course.headsInLock()I -/
def zw_5081 : zW := .leaf (0, [])
def zp_5081 : List (zPo × List (Nat ⊕ (Nat × zL))) := [(([], [], [], some (zaI)), [])]
def zc_5081 : zCt := (64, 1, [.inr (.inl 379)], [], [], .branch 383 (.branch 376 (.leaf (367, 102, 11, .inr 3, [((8, []), .inr (.inl 376))])) (.branch 379 (.leaf (377, 0, 12, .inl ((-2147483648), 2147483647), [])) (.leaf (380, 109, 9, .inr 3, [((0, []), .inr (.inl 366)), ((2, []), .inr (.inl 383))])))) (.branch 388 (.leaf (384, 107, 14, .inr 3, [((11, []), .inr (.inl 388)), ((12, []), .inr (.inl 389))])) (.branch 389 (.leaf (389, 0, 3, .inl (0, 12), [])) (.leaf (390, 0, 36, .inl (0, 11), [])))), zw_5081, [], zp_5081.map (fun p => p.1))
def zu_5081 : List zCu := [(([(64, 4, [(2, .inl (0, [(0, 1)])), (1, .inl (0, [(1, 1)])), (0, .inr (.inl 379))], [])], .branch 383 (.branch 376 (.leaf (367, 102, 11, .inr 3, [((8, []), .inr (.inl 376))])) (.branch 379 (.leaf (377, 0, 12, .inl ((-2147483648), 2147483647), [])) (.leaf (380, 109, 9, .inr 3, [((0, []), .inr (.inl 366)), ((2, []), .inr (.inl 383))])))) (.branch 388 (.leaf (384, 107, 14, .inr 3, [((11, []), .inr (.inl 388)), ((12, []), .inr (.inl 389))])) (.branch 389 (.leaf (389, 0, 3, .inl (0, 12), [])) (.leaf (390, 0, 36, .inl (0, 11), [])))), [(0, 12), ((-2147483648), 2147483647)], [], []), [.inl (0, 2), .inl (0, 1)], (12, [(0, (-1))]))]
def zs_5081 : List zCt := []
theorem za_5081 : zwin zw_5081 zc_5081.2.2.2.2.2.1 = true := by decide +kernel
theorem z0_5081 : zst0 mi_P zw_5081 [] [] (fun d y as t en => zcal zw_5081 d y as t en zs_5081) zc_5081 zp_5081 zu_5081 278 = true := by decide +kernel
theorem zk_5081 : zu_5081.all (zck mi_P zc_5081.2.1 zw_5081 false [] [] (fun d y as t en => zcal zw_5081 d y as t en zs_5081) zc_5081.2.2.2.1.length zc_5081.2.2.2.1 zc_5081.2.2.2.2.2.1 zp_5081 zu_5081 278) = true := by decide +kernel
theorem zt_5081 {S : Nat × (Nat → Int32)} : zCtr mi_P S zTt zc_5081 := by
  have hc : ∀ c ∈ zs_5081, zCtr mi_P S zTt c := fun c hc => by cases hc
  exact zCtr_of (Om := zTt) (ct := zc_5081) (ps := zp_5081) (fun _ _ _ _ => trivial) rfl hc za_5081 z0_5081 zk_5081
/-- L$Course.pass(II)Z -/
def zw_5082 : zW := .branch 384 (.branch 383 (.leaf (380, [3, 4, 5])) (.leaf (384, [2, 6]))) (.branch 385 (.leaf (385, [0])) (.leaf (386, [0])))
def zp_5082 : List (zPo × List (Nat ⊕ (Nat × zL))) := [(([], [], [(379, [((3, []), zaI), ((4, []), zaI), ((5, []), zaI)]), (383, [((2, []), zaI), ((6, []), .inr (.inr (.inr (.inl (0, 20)))))]), (384, []), (385, [])], some (.inr (.inr (.inr (.inl (0, 1)))))), [])]
def zc_5082 : zCt := (83, 1, [.inr (.inl 379), .inl (0, []), .inr (.inr (.inr (.inl (0, 11))))], [], [], .branch 383 (.branch 380 (.leaf (380, 109, 9, .inr 3, [((1, []), .inr (.inl 380)), ((2, []), .inr (.inl 383)), ((3, []), zaI), ((4, []), zaI), ((5, []), zaI)])) (.branch 381 (.leaf (381, 103, 5, .inr 3, [((1, []), .inr (.inr (.inr (.inl (0, 1))))), ((2, []), zaI), ((3, []), .inr (.inl 381))])) (.leaf (382, 0, 2, .inl ((-2147483648), 2147483647), [])))) (.branch 384 (.leaf (384, 107, 14, .inr 3, [((2, []), zaI), ((6, []), .inr (.inr (.inr (.inl (0, 20))))), ((7, []), .inr (.inl 384)), ((8, []), .inr (.inl 385))])) (.branch 385 (.leaf (385, 0, 20, .inl ((-2147483648), 2147483647), [])) (.leaf (386, 0, 2, .inl ((-2147483648), 2147483647), [])))), zw_5082, [], zp_5082.map (fun p => p.1))
def zu_5082 : List zCu := []
def zs_5082 : List zCt := [zc_5072, zc_5076]
theorem za_5082 : zwin zw_5082 zc_5082.2.2.2.2.2.1 = true := by decide +kernel
theorem z0_5082 : zst0 mi_P zw_5082 [] [] (fun d y as t en => zcal zw_5082 d y as t en zs_5082) zc_5082 zp_5082 zu_5082 378 = true := by decide +kernel
theorem zk_5082 : zu_5082.all (zck mi_P zc_5082.2.1 zw_5082 false [] [] (fun d y as t en => zcal zw_5082 d y as t en zs_5082) zc_5082.2.2.2.1.length zc_5082.2.2.2.1 zc_5082.2.2.2.2.2.1 zp_5082 zu_5082 378) = true := by decide +kernel
theorem zt_5082 {S : Nat × (Nat → Int32)} : zCtr mi_P S zTt zc_5082 := by
  have hc : ∀ c ∈ zs_5082, zCtr mi_P S zTt c := by
    intro c hc
    simp only [zs_5082, List.mem_cons, List.not_mem_nil, or_false] at hc
    rcases hc with rfl | rfl
    · exact zt_5072
    · exact zt_5076
  exact zCtr_of (Om := zTt) (ct := zc_5082) (ps := zp_5082) (fun _ _ _ _ => trivial) rfl hc za_5082 z0_5082 zk_5082
/-- L$Course.pass(II)Z -/
def zw_5083 : zW := .branch 384 (.branch 383 (.leaf (380, [3, 4, 5])) (.leaf (384, [2, 6]))) (.branch 385 (.leaf (385, [0])) (.leaf (386, [0])))
def zp_5083 : List (zPo × List (Nat ⊕ (Nat × zL))) := [(([], [], [(379, [((3, []), zaI), ((4, []), zaI), ((5, []), zaI)]), (383, [((2, []), zaI), ((6, []), .inr (.inr (.inr (.inl (0, 20)))))]), (384, []), (385, [])], some (.inr (.inr (.inr (.inl (0, 1)))))), [])]
def zc_5083 : zCt := (83, 1, [.inr (.inl 379), .inl (1, []), .inr (.inr (.inr (.inl (0, 11))))], [], [], .branch 383 (.branch 380 (.leaf (380, 109, 9, .inr 3, [((1, []), .inr (.inl 380)), ((2, []), .inr (.inl 383)), ((3, []), zaI), ((4, []), zaI), ((5, []), zaI)])) (.branch 381 (.leaf (381, 103, 5, .inr 3, [((1, []), .inr (.inr (.inr (.inl (0, 1))))), ((2, []), zaI), ((3, []), .inr (.inl 381))])) (.leaf (382, 0, 2, .inl ((-2147483648), 2147483647), [])))) (.branch 384 (.leaf (384, 107, 14, .inr 3, [((2, []), zaI), ((6, []), .inr (.inr (.inr (.inl (0, 20))))), ((7, []), .inr (.inl 384)), ((8, []), .inr (.inl 385))])) (.branch 385 (.leaf (385, 0, 20, .inl ((-2147483648), 2147483647), [])) (.leaf (386, 0, 2, .inl ((-2147483648), 2147483647), [])))), zw_5083, [], zp_5083.map (fun p => p.1))
def zu_5083 : List zCu := []
def zs_5083 : List zCt := [zc_5072, zc_5076]
theorem za_5083 : zwin zw_5083 zc_5083.2.2.2.2.2.1 = true := by decide +kernel
theorem z0_5083 : zst0 mi_P zw_5083 [] [] (fun d y as t en => zcal zw_5083 d y as t en zs_5083) zc_5083 zp_5083 zu_5083 376 = true := by decide +kernel
theorem zk_5083 : zu_5083.all (zck mi_P zc_5083.2.1 zw_5083 false [] [] (fun d y as t en => zcal zw_5083 d y as t en zs_5083) zc_5083.2.2.2.1.length zc_5083.2.2.2.1 zc_5083.2.2.2.2.2.1 zp_5083 zu_5083 376) = true := by decide +kernel
theorem zt_5083 {S : Nat × (Nat → Int32)} : zCtr mi_P S zTt zc_5083 := by
  have hc : ∀ c ∈ zs_5083, zCtr mi_P S zTt c := by
    intro c hc
    simp only [zs_5083, List.mem_cons, List.not_mem_nil, or_false] at hc
    rcases hc with rfl | rfl
    · exact zt_5072
    · exact zt_5076
  exact zCtr_of (Om := zTt) (ct := zc_5083) (ps := zp_5083) (fun _ _ _ _ => trivial) rfl hc za_5083 z0_5083 zk_5083
/-- L$Course.leaveLock(II)V -/
def zw_5084 : zW := .branch 385 (.branch 383 (.leaf (380, [3, 4, 5])) (.branch 384 (.leaf (384, [2, 6])) (.leaf (385, [0])))) (.branch 388 (.branch 386 (.leaf (386, [0])) (.leaf (387, [0]))) (.branch 389 (.leaf (389, [0])) (.leaf (390, [0]))))
def zp_5084 : List (zPo × List (Nat ⊕ (Nat × zL))) := [(([], [], [(379, [((3, []), zaI), ((4, []), zaI), ((5, []), zaI)]), (383, [((2, []), zaI), ((6, []), .inr (.inr (.inr (.inl (0, 20)))))]), (384, []), (385, []), (386, []), (388, []), (389, [])], none), [])]
def zc_5084 : zCt := (81, 2, [.inr (.inl 379), .inl (1, []), .inl (1, [])], [], [], .branch 383 (.branch 379 (.branch 378 (.leaf (367, 102, 11, .inr 3, [((10, []), .inr (.inl 378))])) (.leaf (379, 0, 12, .inl ((-2147483648), 2147483647), []))) (.branch 380 (.leaf (380, 109, 9, .inr 3, [((0, []), .inr (.inl 366)), ((1, []), .inr (.inl 380)), ((2, []), .inr (.inl 383)), ((3, []), zaI), ((4, []), zaI), ((5, []), zaI)])) (.branch 381 (.leaf (381, 103, 5, .inr 3, [((1, []), .inr (.inr (.inr (.inl (0, 1))))), ((2, []), zaI), ((3, []), .inr (.inl 381))])) (.leaf (382, 0, 2, .inl ((-2147483648), 2147483647), []))))) (.branch 386 (.branch 384 (.leaf (384, 107, 14, .inr 3, [((2, []), zaI), ((6, []), .inr (.inr (.inr (.inl (0, 20))))), ((7, []), .inr (.inl 384)), ((8, []), .inr (.inl 385)), ((9, []), .inr (.inl 386)), ((11, []), .inr (.inl 388)), ((12, []), .inr (.inl 389))])) (.branch 385 (.leaf (385, 0, 20, .inl ((-2147483648), 2147483647), [])) (.leaf (386, 0, 2, .inl ((-2147483648), 2147483647), [])))) (.branch 388 (.leaf (387, 0, 12, .inl ((-2147483648), 2147483647), [])) (.branch 389 (.leaf (389, 0, 3, .inl (0, 12), [])) (.leaf (390, 0, 36, .inl (0, 11), []))))), zw_5084, [], zp_5084.map (fun p => p.1))
def zu_5084 : List zCu := []
def zs_5084 : List zCt := [zc_5079, zc_5083, zc_5073]
theorem za_5084 : zwin zw_5084 zc_5084.2.2.2.2.2.1 = true := by decide +kernel
theorem z0_5084 : zst0 mi_P zw_5084 [] [] (fun d y as t en => zcal zw_5084 d y as t en zs_5084) zc_5084 zp_5084 zu_5084 246 = true := by decide +kernel
theorem zk_5084 : zu_5084.all (zck mi_P zc_5084.2.1 zw_5084 false [] [] (fun d y as t en => zcal zw_5084 d y as t en zs_5084) zc_5084.2.2.2.1.length zc_5084.2.2.2.1 zc_5084.2.2.2.2.2.1 zp_5084 zu_5084 246) = true := by decide +kernel
theorem zt_5084 {S : Nat × (Nat → Int32)} : zCtr mi_P S zTt zc_5084 := by
  have hc : ∀ c ∈ zs_5084, zCtr mi_P S zTt c := by
    intro c hc
    simp only [zs_5084, List.mem_cons, List.not_mem_nil, or_false] at hc
    rcases hc with rfl | rfl | rfl
    · exact zt_5079
    · exact zt_5083
    · exact zt_5073
  exact zCtr_of (Om := zTt) (ct := zc_5084) (ps := zp_5084) (fun _ _ _ _ => trivial) rfl hc za_5084 z0_5084 zk_5084
/-- L$Course.leaveLock(II)V -/
def zw_5085 : zW := .branch 385 (.branch 383 (.leaf (380, [3, 4, 5])) (.branch 384 (.leaf (384, [2, 6])) (.leaf (385, [0])))) (.branch 388 (.branch 386 (.leaf (386, [0])) (.leaf (387, [0]))) (.branch 389 (.leaf (389, [0])) (.leaf (390, [0]))))
def zp_5085 : List (zPo × List (Nat ⊕ (Nat × zL))) := [(([], [], [(379, [((3, []), zaI), ((4, []), zaI), ((5, []), zaI)]), (383, [((2, []), zaI), ((6, []), .inr (.inr (.inr (.inl (0, 20)))))]), (384, []), (385, []), (386, []), (388, []), (389, [])], none), [])]
def zc_5085 : zCt := (81, 2, [.inr (.inl 379), .inl (0, []), .inl (0, [])], [], [], .branch 383 (.branch 379 (.branch 378 (.leaf (367, 102, 11, .inr 3, [((10, []), .inr (.inl 378))])) (.leaf (379, 0, 12, .inl ((-2147483648), 2147483647), []))) (.branch 380 (.leaf (380, 109, 9, .inr 3, [((0, []), .inr (.inl 366)), ((1, []), .inr (.inl 380)), ((2, []), .inr (.inl 383)), ((3, []), zaI), ((4, []), zaI), ((5, []), zaI)])) (.branch 381 (.leaf (381, 103, 5, .inr 3, [((1, []), .inr (.inr (.inr (.inl (0, 1))))), ((2, []), zaI), ((3, []), .inr (.inl 381))])) (.leaf (382, 0, 2, .inl ((-2147483648), 2147483647), []))))) (.branch 386 (.branch 384 (.leaf (384, 107, 14, .inr 3, [((2, []), zaI), ((6, []), .inr (.inr (.inr (.inl (0, 20))))), ((7, []), .inr (.inl 384)), ((8, []), .inr (.inl 385)), ((9, []), .inr (.inl 386)), ((11, []), .inr (.inl 388)), ((12, []), .inr (.inl 389))])) (.branch 385 (.leaf (385, 0, 20, .inl ((-2147483648), 2147483647), [])) (.leaf (386, 0, 2, .inl ((-2147483648), 2147483647), [])))) (.branch 388 (.leaf (387, 0, 12, .inl ((-2147483648), 2147483647), [])) (.branch 389 (.leaf (389, 0, 3, .inl (0, 12), [])) (.leaf (390, 0, 36, .inl (0, 11), []))))), zw_5085, [], zp_5085.map (fun p => p.1))
def zu_5085 : List zCu := []
def zs_5085 : List zCt := [zc_5078, zc_5082, zc_5073]
theorem za_5085 : zwin zw_5085 zc_5085.2.2.2.2.2.1 = true := by decide +kernel
theorem z0_5085 : zst0 mi_P zw_5085 [] [] (fun d y as t en => zcal zw_5085 d y as t en zs_5085) zc_5085 zp_5085 zu_5085 246 = true := by decide +kernel
theorem zk_5085 : zu_5085.all (zck mi_P zc_5085.2.1 zw_5085 false [] [] (fun d y as t en => zcal zw_5085 d y as t en zs_5085) zc_5085.2.2.2.1.length zc_5085.2.2.2.1 zc_5085.2.2.2.2.2.1 zp_5085 zu_5085 246) = true := by decide +kernel
theorem zt_5085 {S : Nat × (Nat → Int32)} : zCtr mi_P S zTt zc_5085 := by
  have hc : ∀ c ∈ zs_5085, zCtr mi_P S zTt c := by
    intro c hc
    simp only [zs_5085, List.mem_cons, List.not_mem_nil, or_false] at hc
    rcases hc with rfl | rfl | rfl
    · exact zt_5078
    · exact zt_5082
    · exact zt_5073
  exact zCtr_of (Om := zTt) (ct := zc_5085) (ps := zp_5085) (fun _ _ _ _ => trivial) rfl hc za_5085 z0_5085 zk_5085
/-- L$Course.enterLock(II)V -/
def zw_5086 : zW := .branch 386 (.branch 384 (.branch 383 (.leaf (380, [3, 4, 5])) (.leaf (384, [2, 6]))) (.branch 385 (.leaf (385, [0])) (.leaf (386, [0])))) (.branch 388 (.branch 387 (.leaf (387, [0])) (.leaf (388, [0]))) (.branch 389 (.leaf (389, [0])) (.leaf (390, [0]))))
def zp_5086 : List (zPo × List (Nat ⊕ (Nat × zL))) := [(([], [], [(379, [((3, []), zaI), ((4, []), zaI), ((5, []), zaI)]), (383, [((2, []), zaI), ((6, []), .inr (.inr (.inr (.inl (0, 20)))))]), (384, []), (385, []), (386, []), (387, []), (388, []), (389, [])], none), [])]
def zc_5086 : zCt := (87, 2, [.inr (.inl 379), .inl (0, []), .inl (0, [])], [], [], .branch 383 (.branch 380 (.branch 377 (.leaf (367, 102, 11, .inr 3, [((9, []), .inr (.inl 377))])) (.branch 379 (.leaf (378, 0, 12, .inl ((-2147483648), 2147483647), [])) (.leaf (380, 109, 9, .inr 3, [((0, []), .inr (.inl 366)), ((1, []), .inr (.inl 380)), ((2, []), .inr (.inl 383)), ((3, []), zaI), ((4, []), zaI), ((5, []), zaI)])))) (.branch 381 (.leaf (381, 103, 5, .inr 3, [((0, []), zaI), ((1, []), .inr (.inr (.inr (.inl (0, 1))))), ((2, []), zaI), ((3, []), .inr (.inl 381)), ((4, []), .inr (.inl 382))])) (.branch 382 (.leaf (382, 0, 2, .inl ((-2147483648), 2147483647), [])) (.leaf (383, 0, 12, .inl ((-2147483648), 2147483647), []))))) (.branch 386 (.branch 384 (.leaf (384, 107, 14, .inr 3, [((0, []), zaI), ((2, []), zaI), ((6, []), .inr (.inr (.inr (.inl (0, 20))))), ((7, []), .inr (.inl 384)), ((8, []), .inr (.inl 385)), ((9, []), .inr (.inl 386)), ((10, []), .inr (.inl 387)), ((11, []), .inr (.inl 388)), ((12, []), .inr (.inl 389))])) (.branch 385 (.leaf (385, 0, 20, .inl ((-2147483648), 2147483647), [])) (.leaf (386, 0, 2, .inl ((-2147483648), 2147483647), [])))) (.branch 388 (.branch 387 (.leaf (387, 0, 12, .inl ((-2147483648), 2147483647), [])) (.leaf (388, 0, 12, .inl ((-2147483648), 2147483647), []))) (.branch 389 (.leaf (389, 0, 3, .inl (0, 12), [])) (.leaf (390, 0, 36, .inl (0, 11), []))))), zw_5086, [], zp_5086.map (fun p => p.1))
def zu_5086 : List zCu := []
def zs_5086 : List zCt := [zc_5080, zc_5082, zc_5074]
theorem za_5086 : zwin zw_5086 zc_5086.2.2.2.2.2.1 = true := by decide +kernel
theorem z0_5086 : zst0 mi_P zw_5086 [] [] (fun d y as t en => zcal zw_5086 d y as t en zs_5086) zc_5086 zp_5086 zu_5086 456 = true := by decide +kernel
theorem zk_5086 : zu_5086.all (zck mi_P zc_5086.2.1 zw_5086 false [] [] (fun d y as t en => zcal zw_5086 d y as t en zs_5086) zc_5086.2.2.2.1.length zc_5086.2.2.2.1 zc_5086.2.2.2.2.2.1 zp_5086 zu_5086 456) = true := by decide +kernel
theorem zt_5086 {S : Nat × (Nat → Int32)} : zCtr mi_P S zTt zc_5086 := by
  have hc : ∀ c ∈ zs_5086, zCtr mi_P S zTt c := by
    intro c hc
    simp only [zs_5086, List.mem_cons, List.not_mem_nil, or_false] at hc
    rcases hc with rfl | rfl | rfl
    · exact zt_5080
    · exact zt_5082
    · exact zt_5074
  exact zCtr_of (Om := zTt) (ct := zc_5086) (ps := zp_5086) (fun _ _ _ _ => trivial) rfl hc za_5086 z0_5086 zk_5086
/-- L$Course.enterLock(II)V -/
def zw_5087 : zW := .branch 386 (.branch 384 (.branch 383 (.leaf (380, [3, 4, 5])) (.leaf (384, [2, 6]))) (.branch 385 (.leaf (385, [0])) (.leaf (386, [0])))) (.branch 388 (.branch 387 (.leaf (387, [0])) (.leaf (388, [0]))) (.branch 389 (.leaf (389, [0])) (.leaf (390, [0]))))
def zp_5087 : List (zPo × List (Nat ⊕ (Nat × zL))) := [(([], [], [(379, [((3, []), zaI), ((4, []), zaI), ((5, []), zaI)]), (383, [((2, []), zaI), ((6, []), .inr (.inr (.inr (.inl (0, 20)))))]), (384, []), (385, []), (386, []), (387, []), (388, []), (389, [])], none), [])]
def zc_5087 : zCt := (87, 2, [.inr (.inl 379), .inl (1, []), .inl (1, [])], [], [], .branch 383 (.branch 380 (.branch 377 (.leaf (367, 102, 11, .inr 3, [((9, []), .inr (.inl 377))])) (.branch 379 (.leaf (378, 0, 12, .inl ((-2147483648), 2147483647), [])) (.leaf (380, 109, 9, .inr 3, [((0, []), .inr (.inl 366)), ((1, []), .inr (.inl 380)), ((2, []), .inr (.inl 383)), ((3, []), zaI), ((4, []), zaI), ((5, []), zaI)])))) (.branch 381 (.leaf (381, 103, 5, .inr 3, [((0, []), zaI), ((1, []), .inr (.inr (.inr (.inl (0, 1))))), ((2, []), zaI), ((3, []), .inr (.inl 381)), ((4, []), .inr (.inl 382))])) (.branch 382 (.leaf (382, 0, 2, .inl ((-2147483648), 2147483647), [])) (.leaf (383, 0, 12, .inl ((-2147483648), 2147483647), []))))) (.branch 386 (.branch 384 (.leaf (384, 107, 14, .inr 3, [((0, []), zaI), ((2, []), zaI), ((6, []), .inr (.inr (.inr (.inl (0, 20))))), ((7, []), .inr (.inl 384)), ((8, []), .inr (.inl 385)), ((9, []), .inr (.inl 386)), ((10, []), .inr (.inl 387)), ((11, []), .inr (.inl 388)), ((12, []), .inr (.inl 389))])) (.branch 385 (.leaf (385, 0, 20, .inl ((-2147483648), 2147483647), [])) (.leaf (386, 0, 2, .inl ((-2147483648), 2147483647), [])))) (.branch 388 (.branch 387 (.leaf (387, 0, 12, .inl ((-2147483648), 2147483647), [])) (.leaf (388, 0, 12, .inl ((-2147483648), 2147483647), []))) (.branch 389 (.leaf (389, 0, 3, .inl (0, 12), [])) (.leaf (390, 0, 36, .inl (0, 11), []))))), zw_5087, [], zp_5087.map (fun p => p.1))
def zu_5087 : List zCu := []
def zs_5087 : List zCt := [zc_5080, zc_5083, zc_5075]
theorem za_5087 : zwin zw_5087 zc_5087.2.2.2.2.2.1 = true := by decide +kernel
theorem z0_5087 : zst0 mi_P zw_5087 [] [] (fun d y as t en => zcal zw_5087 d y as t en zs_5087) zc_5087 zp_5087 zu_5087 456 = true := by decide +kernel
theorem zk_5087 : zu_5087.all (zck mi_P zc_5087.2.1 zw_5087 false [] [] (fun d y as t en => zcal zw_5087 d y as t en zs_5087) zc_5087.2.2.2.1.length zc_5087.2.2.2.1 zc_5087.2.2.2.2.2.1 zp_5087 zu_5087 456) = true := by decide +kernel
theorem zt_5087 {S : Nat × (Nat → Int32)} : zCtr mi_P S zTt zc_5087 := by
  have hc : ∀ c ∈ zs_5087, zCtr mi_P S zTt c := by
    intro c hc
    simp only [zs_5087, List.mem_cons, List.not_mem_nil, or_false] at hc
    rcases hc with rfl | rfl | rfl
    · exact zt_5080
    · exact zt_5083
    · exact zt_5075
  exact zCtr_of (Om := zTt) (ct := zc_5087) (ps := zp_5087) (fun _ _ _ _ => trivial) rfl hc za_5087 z0_5087 zk_5087
/-- L$Course.tally()V -/
def zw_5088 : zW := .branch 391 (.branch 383 (.leaf (380, [6])) (.leaf (384, [3]))) (.branch 392 (.leaf (392, [0])) (.leaf (393, [0])))
def zp_5088 : List (zPo × List (Nat ⊕ (Nat × zL))) := [(([], [], [(379, [((6, []), zaI)]), (383, [((3, []), zaI)]), (391, []), (392, [])], none), [])]
def zc_5088 : zCt := (89, 2, [.inr (.inl 379)], [], [], .branch 385 (.branch 378 (.branch 376 (.leaf (367, 102, 11, .inr 3, [((8, []), .inr (.inl 376)), ((10, []), .inr (.inl 378))])) (.leaf (377, 0, 12, .inl ((-2147483648), 2147483647), []))) (.branch 379 (.leaf (379, 0, 12, .inl ((-2147483648), 2147483647), [])) (.branch 383 (.leaf (380, 109, 9, .inr 3, [((0, []), .inr (.inl 366)), ((2, []), .inr (.inl 383)), ((6, []), zaI), ((7, []), .inr (.inl 391)), ((8, []), .inr (.inl 392))])) (.leaf (384, 107, 14, .inr 3, [((3, []), zaI), ((8, []), .inr (.inl 385)), ((11, []), .inr (.inl 388)), ((12, []), .inr (.inl 389))]))))) (.branch 389 (.branch 388 (.leaf (386, 0, 2, .inl ((-2147483648), 2147483647), [])) (.leaf (389, 0, 3, .inl (0, 12), []))) (.branch 391 (.leaf (390, 0, 36, .inl (0, 11), [])) (.branch 392 (.leaf (392, 0, 2, .inl ((-2147483648), 2147483647), [])) (.leaf (393, 0, 3, .inl ((-2147483648), 2147483647), []))))), zw_5088, [], zp_5088.map (fun p => p.1))
def zu_5088 : List zCu := []
def zs_5088 : List zCt := [zc_5081, zc_5079, zc_5078]
theorem za_5088 : zwin zw_5088 zc_5088.2.2.2.2.2.1 = true := by decide +kernel
theorem z0_5088 : zst0 mi_P zw_5088 [] [] (fun d y as t en => zcal zw_5088 d y as t en zs_5088) zc_5088 zp_5088 zu_5088 884 = true := by decide +kernel
theorem zk_5088 : zu_5088.all (zck mi_P zc_5088.2.1 zw_5088 false [] [] (fun d y as t en => zcal zw_5088 d y as t en zs_5088) zc_5088.2.2.2.1.length zc_5088.2.2.2.1 zc_5088.2.2.2.2.2.1 zp_5088 zu_5088 884) = true := by decide +kernel
theorem zt_5088 {S : Nat × (Nat → Int32)} : zCtr mi_P S zTt zc_5088 := by
  have hc : ∀ c ∈ zs_5088, zCtr mi_P S zTt c := by
    intro c hc
    simp only [zs_5088, List.mem_cons, List.not_mem_nil, or_false] at hc
    rcases hc with rfl | rfl | rfl
    · exact zt_5081
    · exact zt_5079
    · exact zt_5078
  exact zCtr_of (Om := zTt) (ct := zc_5088) (ps := zp_5088) (fun _ _ _ _ => trivial) rfl hc za_5088 z0_5088 zk_5088
/-- L$Course.slip()V -/
def zw_5089 : zW := .branch 383 (.branch 374 (.leaf (372, [0])) (.leaf (375, [0]))) (.branch 390 (.leaf (384, [2])) (.leaf (391, [0])))
def zp_5089 : List (zPo × List (Nat ⊕ (Nat × zL))) := [(([], [], [(371, []), (374, []), (383, [((2, []), zaI)]), (390, [])], none), [])]
def zc_5089 : zCt := (90, 3, [.inr (.inl 379)], [], [], .branch 376 (.branch 372 (.branch 370 (.leaf (367, 102, 11, .inr 3, [((1, []), .inr (.inl 370)), ((5, []), .inr (.inr (.inr (.inl (0, 4))))), ((8, []), .inr (.inl 376))])) (.branch 371 (.leaf (371, 104, 7, .inr 3, [((0, []), .inr (.inl 371)), ((4, []), .inr (.inl 372)), ((5, []), .inr (.inl 373)), ((6, []), .inr (.inl 374))])) (.leaf (372, 0, 6, .inl ((-2147483648), 2147483647), [])))) (.branch 373 (.leaf (373, 0, 5, .inl (0, 540), [])) (.branch 374 (.leaf (374, 0, 540, .inr 1, [])) (.leaf (375, 0, 30, .inl ((-2147483648), 2147483647), []))))) (.branch 385 (.branch 379 (.leaf (377, 0, 12, .inl ((-2147483648), 2147483647), [])) (.branch 383 (.leaf (380, 109, 9, .inr 3, [((0, []), .inr (.inl 366)), ((2, []), .inr (.inl 383))])) (.leaf (384, 107, 14, .inr 3, [((1, []), zaI), ((2, []), zaI), ((4, []), zaI), ((5, []), .inr (.inr (.inr (.inl (0, 1))))), ((8, []), .inr (.inl 385)), ((11, []), .inr (.inl 388)), ((12, []), .inr (.inl 389)), ((13, []), .inr (.inl 390))])))) (.branch 389 (.branch 388 (.leaf (386, 0, 2, .inl ((-2147483648), 2147483647), [])) (.leaf (389, 0, 3, .inl (0, 12), []))) (.branch 390 (.leaf (390, 0, 36, .inl (0, 11), [])) (.leaf (391, 0, 16, .inl ((-2147483648), 2147483647), []))))), zw_5089, [], zp_5089.map (fun p => p.1))
def zu_5089 : List zCu := [(([(90, 8, [(1, .inl (0, [(2, 1)])), (0, .inr (.inl 379))], [])], .branch 376 (.branch 372 (.branch 370 (.leaf (367, 102, 11, .inr 3, [((1, []), .inr (.inl 370)), ((5, []), .inr (.inr (.inr (.inl (0, 4))))), ((8, []), .inr (.inl 376))])) (.branch 371 (.leaf (371, 104, 7, .inr 3, [((0, []), .inr (.inl 371)), ((4, []), .inr (.inl 372)), ((5, []), .inr (.inl 373)), ((6, []), .inr (.inl 374))])) (.leaf (372, 0, 6, .inl ((-2147483648), 2147483647), [((3, []), .inl (0, [(0, 1)])), ((4, []), .inl (0, [(1, 1)]))])))) (.branch 373 (.leaf (373, 0, 5, .inl (0, 540), [])) (.branch 374 (.leaf (374, 0, 540, .inr 1, [])) (.leaf (375, 0, 30, .inl ((-2147483648), 2147483647), []))))) (.branch 385 (.branch 379 (.leaf (377, 0, 12, .inl ((-2147483648), 2147483647), [])) (.branch 383 (.leaf (380, 109, 9, .inr 3, [((0, []), .inr (.inl 366)), ((2, []), .inr (.inl 383))])) (.leaf (384, 107, 14, .inr 3, [((2, []), zaI), ((8, []), .inr (.inl 385)), ((11, []), .inr (.inl 388)), ((12, []), .inr (.inl 389)), ((13, []), .inr (.inl 390)), ((5, []), .inr (.inr (.inr (.inl (0, 1))))), ((4, []), .inl (0, [(0, 1)])), ((1, []), .inl (0, [(1, 1)]))])))) (.branch 389 (.branch 388 (.leaf (386, 0, 2, .inl ((-2147483648), 2147483647), [])) (.leaf (389, 0, 3, .inl (0, 12), []))) (.branch 390 (.leaf (390, 0, 36, .inl (0, 11), [])) (.leaf (391, 0, 16, .inl ((-2147483648), 2147483647), []))))), [((-2147483648), 2147483647), ((-2147483648), 2147483647), (0, 4)], [], []), [.inr (.inr (371, (3, []))), .inr (.inr (371, (4, []))), .inl (0, 1)], (4, [(2, (-1))]))]
def zs_5089 : List zCt := [zc_5081, zc_5071, zc_5072]
theorem za_5089 : zwin zw_5089 zc_5089.2.2.2.2.2.1 = true := by decide +kernel
theorem z0_5089 : zst0 mi_P zw_5089 [] [] (fun d y as t en => zcal zw_5089 d y as t en zs_5089) zc_5089 zp_5089 zu_5089 740 = true := by decide +kernel
theorem zk_5089 : zu_5089.all (zck mi_P zc_5089.2.1 zw_5089 false [] [] (fun d y as t en => zcal zw_5089 d y as t en zs_5089) zc_5089.2.2.2.1.length zc_5089.2.2.2.1 zc_5089.2.2.2.2.2.1 zp_5089 zu_5089 740) = true := by decide +kernel
theorem zt_5089 {S : Nat × (Nat → Int32)} : zCtr mi_P S zTt zc_5089 := by
  have hc : ∀ c ∈ zs_5089, zCtr mi_P S zTt c := by
    intro c hc
    simp only [zs_5089, List.mem_cons, List.not_mem_nil, or_false] at hc
    rcases hc with rfl | rfl | rfl
    · exact zt_5081
    · exact zt_5071
    · exact zt_5072
  exact zCtr_of (Om := zTt) (ct := zc_5089) (ps := zp_5089) (fun _ _ _ _ => trivial) rfl hc za_5089 z0_5089 zk_5089
/-- L$Course.passSecond()V -/
def zw_5090 : zW := .branch 386 (.branch 383 (.branch 374 (.leaf (372, [0])) (.branch 379 (.leaf (375, [0])) (.leaf (380, [3, 4, 5, 6])))) (.branch 384 (.leaf (384, [0, 2, 3, 6])) (.branch 385 (.leaf (385, [0])) (.leaf (386, [0]))))) (.branch 389 (.branch 387 (.leaf (387, [0])) (.branch 388 (.leaf (388, [0])) (.leaf (389, [0])))) (.branch 391 (.branch 390 (.leaf (390, [0])) (.leaf (391, [0]))) (.branch 392 (.leaf (392, [0])) (.leaf (393, [0])))))
def zp_5090 : List (zPo × List (Nat ⊕ (Nat × zL))) := [(([], [], [(371, []), (374, []), (379, [((3, []), zaI), ((4, []), zaI), ((5, []), zaI), ((6, []), zaI)]), (383, [((0, []), zaI), ((2, []), zaI), ((3, []), zaI), ((6, []), .inr (.inr (.inr (.inl (0, 20)))))]), (384, []), (385, []), (386, []), (387, []), (388, []), (389, []), (390, []), (391, []), (392, [])], none), [])]
def zc_5090 : zCt := (78, 4, [.inr (.inl 379)], [], [], .branch 381 (.branch 374 (.branch 371 (.branch 370 (.leaf (367, 102, 11, .inr 3, [((1, []), .inr (.inl 370)), ((5, []), .inr (.inr (.inr (.inl (0, 4))))), ((7, []), .inr (.inr (.inr (.inl (0, 12))))), ((8, []), .inr (.inl 376)), ((9, []), .inr (.inl 377)), ((10, []), .inr (.inl 378))])) (.leaf (371, 104, 7, .inr 3, [((0, []), .inr (.inl 371)), ((4, []), .inr (.inl 372)), ((5, []), .inr (.inl 373)), ((6, []), .inr (.inl 374))]))) (.branch 372 (.leaf (372, 0, 6, .inl ((-2147483648), 2147483647), [])) (.branch 373 (.leaf (373, 0, 5, .inl (0, 540), [])) (.leaf (374, 0, 540, .inr 1, []))))) (.branch 378 (.branch 376 (.leaf (375, 0, 30, .inl ((-2147483648), 2147483647), [])) (.branch 377 (.leaf (377, 0, 12, .inl ((-2147483648), 2147483647), [])) (.leaf (378, 0, 12, .inl ((-2147483648), 2147483647), [])))) (.branch 379 (.leaf (379, 0, 12, .inl ((-2147483648), 2147483647), [])) (.branch 380 (.leaf (380, 109, 9, .inr 3, [((0, []), .inr (.inl 366)), ((1, []), .inr (.inl 380)), ((2, []), .inr (.inl 383)), ((3, []), zaI), ((4, []), zaI), ((5, []), zaI), ((6, []), zaI), ((7, []), .inr (.inl 391)), ((8, []), .inr (.inl 392))])) (.leaf (381, 103, 5, .inr 3, [((0, []), zaI), ((1, []), .inr (.inr (.inr (.inl (0, 1))))), ((2, []), zaI), ((3, []), .inr (.inl 381)), ((4, []), .inr (.inl 382))])))))) (.branch 387 (.branch 384 (.branch 382 (.leaf (382, 0, 2, .inl ((-2147483648), 2147483647), [])) (.branch 383 (.leaf (383, 0, 12, .inl ((-2147483648), 2147483647), [])) (.leaf (384, 107, 14, .inr 3, [((0, []), zaI), ((1, []), zaI), ((2, []), zaI), ((3, []), zaI), ((4, []), zaI), ((5, []), .inr (.inr (.inr (.inl (0, 1))))), ((6, []), .inr (.inr (.inr (.inl (0, 20))))), ((7, []), .inr (.inl 384)), ((8, []), .inr (.inl 385)), ((9, []), .inr (.inl 386)), ((10, []), .inr (.inl 387)), ((11, []), .inr (.inl 388)), ((12, []), .inr (.inl 389)), ((13, []), .inr (.inl 390))])))) (.branch 385 (.leaf (385, 0, 20, .inl ((-2147483648), 2147483647), [])) (.branch 386 (.leaf (386, 0, 2, .inl ((-2147483648), 2147483647), [])) (.leaf (387, 0, 12, .inl ((-2147483648), 2147483647), []))))) (.branch 390 (.branch 388 (.leaf (388, 0, 12, .inl ((-2147483648), 2147483647), [])) (.branch 389 (.leaf (389, 0, 3, .inl (0, 12), [])) (.leaf (390, 0, 36, .inl (0, 11), [])))) (.branch 391 (.leaf (391, 0, 16, .inl ((-2147483648), 2147483647), [])) (.branch 392 (.leaf (392, 0, 2, .inl ((-2147483648), 2147483647), [])) (.leaf (393, 0, 3, .inl ((-2147483648), 2147483647), [])))))), zw_5090, [], zp_5090.map (fun p => p.1))
def zu_5090 : List zCu := []
def zs_5090 : List zCt := [zc_5077, zc_5084, zc_5085, zc_5086, zc_5087, zc_5088, zc_5089]
theorem za_5090 : zwin zw_5090 zc_5090.2.2.2.2.2.1 = true := by decide +kernel
theorem z0_5090 : zst0 mi_P zw_5090 [] [] (fun d y as t en => zcal zw_5090 d y as t en zs_5090) zc_5090 zp_5090 zu_5090 314 = true := by decide +kernel
theorem zk_5090 : zu_5090.all (zck mi_P zc_5090.2.1 zw_5090 false [] [] (fun d y as t en => zcal zw_5090 d y as t en zs_5090) zc_5090.2.2.2.1.length zc_5090.2.2.2.1 zc_5090.2.2.2.2.2.1 zp_5090 zu_5090 314) = true := by decide +kernel
theorem zt_5090 {S : Nat × (Nat → Int32)} : zCtr mi_P S zTt zc_5090 := by
  have hc : ∀ c ∈ zs_5090, zCtr mi_P S zTt c := by
    intro c hc
    simp only [zs_5090, List.mem_cons, List.not_mem_nil, or_false] at hc
    rcases hc with rfl | rfl | rfl | rfl | rfl | rfl | rfl
    · exact zt_5077
    · exact zt_5084
    · exact zt_5085
    · exact zt_5086
    · exact zt_5087
    · exact zt_5088
    · exact zt_5089
  exact zCtr_of (Om := zTt) (ct := zc_5090) (ps := zp_5090) (fun _ _ _ _ => trivial) rfl hc za_5090 z0_5090 zk_5090
