/-- L$Reader.readParty(I)V -/
def zw_68 : zW := .branch 19 (.branch 9 (.leaf (9, [1, 2])) (.branch 12 (.leaf (10, [7])) (.leaf (13, [0])))) (.branch 21 (.branch 20 (.leaf (20, [0])) (.leaf (21, [0]))) (.branch 22 (.leaf (22, [0])) (.leaf (23, [0, 1, 2, 3]))))
def zp_68 : List (zPo × List (Nat ⊕ (Nat × zL))) := [(([], [], [(8, [((1, []), zaI), ((2, []), zaI)]), (9, [((7, []), .inr (.inr (.inr (.inl (0, 12)))))]), (12, []), (19, []), (20, []), (21, []), (22, [((0, []), zaI), ((1, []), .inr (.inr (.inr (.inl (0, 1600))))), ((2, []), .inr (.inr (.inr (.inl (0, 1600))))), ((3, []), zaI)])], none), [])]
def zc_68 : zCt := (49, 8, [.inr (.inl 8), .inr (.inr (.inr (.inl (0, 11))))], [], [], .branch 12 (.branch 9 (.branch 8 (.leaf (8, 1, 1600, .inl ((-128), 127), [])) (.leaf (9, 101, 8, .inr 3, [((0, []), .inr (.inl 9)), ((1, []), zaI), ((2, []), zaI), ((3, []), .inr (.inl 22))]))) (.branch 10 (.leaf (10, 102, 11, .inr 3, [((0, []), .inr (.inl 10)), ((7, []), .inr (.inr (.inr (.inl (0, 12))))), ((8, []), .inr (.inl 19)), ((9, []), .inr (.inl 20)), ((10, []), .inr (.inl 21))])) (.leaf (11, 103, 5, .inr 3, [((4, []), .inr (.inl 12))])))) (.branch 20 (.branch 19 (.leaf (13, 0, 12, .inl ((-2147483648), 2147483647), [])) (.leaf (20, 0, 12, .inl ((-2147483648), 2147483647), []))) (.branch 21 (.leaf (21, 0, 12, .inl ((-2147483648), 2147483647), [])) (.branch 22 (.leaf (22, 0, 12, .inl ((-2147483648), 2147483647), [])) (.leaf (23, 105, 6, .inr 3, [((0, []), zaI), ((1, []), .inr (.inr (.inr (.inl (0, 1600))))), ((2, []), .inr (.inr (.inr (.inl (0, 1600))))), ((3, []), zaI), ((4, []), .inr (.inl 7)), ((5, []), .inr (.inr (.inr (.inl (0, 1600)))))]))))), zw_68, [], zp_68.map (fun p => p.1))
def zu_68 : List zCu := []
def zs_68 : List zCt := [zc_9, zc_8, zc_5]
theorem za_68 : zwin zw_68 zc_68.2.2.2.2.2.1 = true := by decide +kernel
theorem z0_68 : zst0 mi_P zw_68 [] [] (fun d y as t en => zcal zw_68 d y as t en zs_68) zc_68 zp_68 zu_68 544 = true := by decide +kernel
theorem zk_68 : zu_68.all (zck mi_P zc_68.2.1 zw_68 false [] [] (fun d y as t en => zcal zw_68 d y as t en zs_68) zc_68.2.2.2.1.length zc_68.2.2.2.1 zc_68.2.2.2.2.2.1 zp_68 zu_68 544) = true := by decide +kernel
theorem zt_68 {S : Nat × (Nat → Int32)} : zCtr mi_P S zTt zc_68 := by
  have hc : ∀ c ∈ zs_68, zCtr mi_P S zTt c := by
    intro c hc
    simp only [zs_68, List.mem_cons, List.not_mem_nil, or_false] at hc
    rcases hc with rfl | rfl | rfl
    · exact zt_9
    · exact zt_8
    · exact zt_5
  exact zCtr_of (Om := zTt) (ct := zc_68) (ps := zp_68) (fun _ _ _ _ => trivial) rfl hc za_68 z0_68 zk_68
/-- L$Reader.readLine()V -/
def zw_69 : zW := .branch 16 (.branch 11 (.branch 9 (.leaf (9, [1, 2, 4, 5])) (.branch 10 (.leaf (10, [2, 3, 4, 5, 7])) (.leaf (11, [0, 1, 2])))) (.branch 13 (.branch 12 (.leaf (12, [0])) (.leaf (13, [0]))) (.branch 15 (.leaf (14, [1, 2, 3])) (.leaf (16, [0]))))) (.branch 21 (.branch 19 (.branch 18 (.leaf (17, [0])) (.leaf (19, [0]))) (.branch 20 (.leaf (20, [0])) (.leaf (21, [0])))) (.branch 24 (.branch 22 (.leaf (22, [0])) (.leaf (23, [0, 1, 2, 3]))) (.branch 25 (.leaf (25, [0])) (.leaf (26, [0])))))
def zp_69 : List (zPo × List (Nat ⊕ (Nat × zL))) := [(([], [], [(8, [((1, []), zaI), ((2, []), zaI), ((4, []), zaI), ((5, []), .inr (.inr (.inr (.inl (0, 30)))))]), (9, [((2, []), .inr (.inr (.inr (.inl (0, 1))))), ((3, []), zaI), ((4, []), zaI), ((5, []), .inr (.inr (.inr (.inl (0, 4))))), ((7, []), .inr (.inr (.inr (.inl (0, 12)))))]), (10, [((0, []), zaI), ((1, []), .inr (.inr (.inr (.inl (0, 1))))), ((2, []), zaI)]), (11, []), (12, []), (13, [((1, []), zaI), ((2, []), .inr (.inr (.inr (.inl (0, 4))))), ((3, []), .inr (.inr (.inr (.inl (0, 540)))))]), (15, []), (16, []), (18, []), (19, []), (20, []), (21, []), (22, [((0, []), zaI), ((1, []), .inr (.inr (.inr (.inl (0, 1600))))), ((2, []), .inr (.inr (.inr (.inl (0, 1600))))), ((3, []), zaI)]), (24, []), (25, [])], none), [])]
def zc_69 : zCt := (28, 64, [.inr (.inl 8)], [], [], .branch 16 (.branch 11 (.branch 9 (.branch 8 (.leaf (8, 1, 1600, .inl ((-128), 127), [])) (.leaf (9, 101, 8, .inr 3, [((0, []), .inr (.inl 9)), ((1, []), zaI), ((2, []), zaI), ((3, []), .inr (.inl 22)), ((4, []), zaI), ((5, []), .inr (.inr (.inr (.inl (0, 30))))), ((6, []), .inr (.inl 24)), ((7, []), .inr (.inl 25))]))) (.branch 10 (.leaf (10, 102, 11, .inr 3, [((0, []), .inr (.inl 10)), ((1, []), .inr (.inl 13)), ((2, []), .inr (.inr (.inr (.inl (0, 1))))), ((3, []), zaI), ((4, []), zaI), ((5, []), .inr (.inr (.inr (.inl (0, 4))))), ((6, []), .inr (.inl 18)), ((7, []), .inr (.inr (.inr (.inl (0, 12))))), ((8, []), .inr (.inl 19)), ((9, []), .inr (.inl 20)), ((10, []), .inr (.inl 21))])) (.leaf (11, 103, 5, .inr 3, [((0, []), zaI), ((1, []), .inr (.inr (.inr (.inl (0, 1))))), ((2, []), zaI), ((3, []), .inr (.inl 11)), ((4, []), .inr (.inl 12))])))) (.branch 13 (.branch 12 (.leaf (12, 0, 2, .inl ((-2147483648), 2147483647), [])) (.leaf (13, 0, 12, .inl ((-2147483648), 2147483647), []))) (.branch 15 (.leaf (14, 104, 7, .inr 3, [((1, []), zaI), ((2, []), .inr (.inr (.inr (.inl (0, 4))))), ((3, []), .inr (.inr (.inr (.inl (0, 540))))), ((4, []), .inr (.inl 15)), ((5, []), .inr (.inl 16))])) (.leaf (16, 0, 5, .inl (0, 540), []))))) (.branch 21 (.branch 19 (.branch 18 (.leaf (17, 0, 540, .inr 1, [])) (.leaf (19, 0, 4, .inl ((-2147483648), 2147483647), []))) (.branch 20 (.leaf (20, 0, 12, .inl ((-2147483648), 2147483647), [])) (.leaf (21, 0, 12, .inl ((-2147483648), 2147483647), [])))) (.branch 24 (.branch 22 (.leaf (22, 0, 12, .inl ((-2147483648), 2147483647), [])) (.leaf (23, 105, 6, .inr 3, [((0, []), zaI), ((1, []), .inr (.inr (.inr (.inl (0, 1600))))), ((2, []), .inr (.inr (.inr (.inl (0, 1600))))), ((3, []), zaI), ((4, []), .inr (.inl 7)), ((5, []), .inr (.inr (.inr (.inl (0, 1600)))))]))) (.branch 25 (.leaf (25, 0, 4, .inl (0, 1600), [])) (.leaf (26, 0, 4, .inl (0, 1600), []))))), zw_69, [], zp_69.map (fun p => p.1))
def zu_69 : List zCu := []
def zs_69 : List zCt := [zc_7, zc_5, zc_9, zc_8, zc_68, zc_67]
theorem za_69 : zwin zw_69 zc_69.2.2.2.2.2.1 = true := by decide +kernel
theorem z0_69 : zst0 mi_P zw_69 [] [] (fun d y as t en => zcal zw_69 d y as t en zs_69) zc_69 zp_69 zu_69 728 = true := by decide +kernel
theorem zk_69 : zu_69.all (zck mi_P zc_69.2.1 zw_69 false [] [] (fun d y as t en => zcal zw_69 d y as t en zs_69) zc_69.2.2.2.1.length zc_69.2.2.2.1 zc_69.2.2.2.2.2.1 zp_69 zu_69 728) = true := by decide +kernel
theorem zt_69 {S : Nat × (Nat → Int32)} : zCtr mi_P S zTt zc_69 := by
  have hc : ∀ c ∈ zs_69, zCtr mi_P S zTt c := by
    intro c hc
    simp only [zs_69, List.mem_cons, List.not_mem_nil, or_false] at hc
    rcases hc with rfl | rfl | rfl | rfl | rfl | rfl
    · exact zt_7
    · exact zt_5
    · exact zt_9
    · exact zt_8
    · exact zt_68
    · exact zt_67
  exact zCtr_of (Om := zTt) (ct := zc_69) (ps := zp_69) (fun _ _ _ _ => trivial) rfl hc za_69 z0_69 zk_69
/-- L$Reader.read([BI)Z -/
def zw_70 : zW := .branch 16 (.branch 11 (.branch 9 (.leaf (9, [1, 2, 4, 5])) (.branch 10 (.leaf (10, [2, 3, 4, 5, 7])) (.leaf (11, [0, 1, 2])))) (.branch 13 (.branch 12 (.leaf (12, [0])) (.leaf (13, [0]))) (.branch 15 (.leaf (14, [1, 2, 3])) (.leaf (16, [0]))))) (.branch 21 (.branch 19 (.branch 18 (.leaf (17, [0])) (.leaf (19, [0]))) (.branch 20 (.leaf (20, [0])) (.leaf (21, [0])))) (.branch 24 (.branch 22 (.leaf (22, [0])) (.leaf (23, [0, 1, 2, 3, 4, 5]))) (.branch 25 (.leaf (25, [0])) (.leaf (26, [0])))))
def zp_70 : List (zPo × List (Nat ⊕ (Nat × zL))) := [(([], [], [(8, [((1, []), zaI), ((2, []), zaI), ((4, []), zaI), ((5, []), .inr (.inr (.inr (.inl (0, 30)))))]), (9, [((2, []), .inr (.inr (.inr (.inl (0, 1))))), ((3, []), zaI), ((4, []), zaI), ((5, []), .inr (.inr (.inr (.inl (0, 4))))), ((7, []), .inr (.inr (.inr (.inl (0, 12)))))]), (10, [((0, []), zaI), ((1, []), .inr (.inr (.inr (.inl (0, 1))))), ((2, []), zaI)]), (11, []), (12, []), (13, [((1, []), zaI), ((2, []), .inr (.inr (.inr (.inl (0, 4))))), ((3, []), .inr (.inr (.inr (.inl (0, 540)))))]), (15, []), (16, []), (18, []), (19, []), (20, []), (21, []), (22, [((0, []), zaI), ((1, []), .inr (.inr (.inr (.inl (0, 1600))))), ((2, []), .inr (.inr (.inr (.inl (0, 1600))))), ((3, []), zaI), ((4, []), .inr (.inl 7)), ((5, []), .inr (.inr (.inr (.inl (0, 1600)))))]), (24, []), (25, [])], some (.inr (.inr (.inr (.inl (0, 1)))))), [])]
def zc_70 : zCt := (17, 65, [.inr (.inl 8), .inr (.inl 7), .inr (.inr (.inr (.inl (0, 1600))))], [], [], .branch 16 (.branch 11 (.branch 9 (.branch 8 (.leaf (8, 1, 1600, .inl ((-128), 127), [])) (.leaf (9, 101, 8, .inr 3, [((0, []), .inr (.inl 9)), ((1, []), zaI), ((2, []), zaI), ((3, []), .inr (.inl 22)), ((4, []), zaI), ((5, []), .inr (.inr (.inr (.inl (0, 30))))), ((6, []), .inr (.inl 24)), ((7, []), .inr (.inl 25))]))) (.branch 10 (.leaf (10, 102, 11, .inr 3, [((0, []), .inr (.inl 10)), ((1, []), .inr (.inl 13)), ((2, []), .inr (.inr (.inr (.inl (0, 1))))), ((3, []), zaI), ((4, []), zaI), ((5, []), .inr (.inr (.inr (.inl (0, 4))))), ((6, []), .inr (.inl 18)), ((7, []), .inr (.inr (.inr (.inl (0, 12))))), ((8, []), .inr (.inl 19)), ((9, []), .inr (.inl 20)), ((10, []), .inr (.inl 21))])) (.leaf (11, 103, 5, .inr 3, [((0, []), zaI), ((1, []), .inr (.inr (.inr (.inl (0, 1))))), ((2, []), zaI), ((3, []), .inr (.inl 11)), ((4, []), .inr (.inl 12))])))) (.branch 13 (.branch 12 (.leaf (12, 0, 2, .inl ((-2147483648), 2147483647), [])) (.leaf (13, 0, 12, .inl ((-2147483648), 2147483647), []))) (.branch 15 (.leaf (14, 104, 7, .inr 3, [((1, []), zaI), ((2, []), .inr (.inr (.inr (.inl (0, 4))))), ((3, []), .inr (.inr (.inr (.inl (0, 540))))), ((4, []), .inr (.inl 15)), ((5, []), .inr (.inl 16))])) (.leaf (16, 0, 5, .inl (0, 540), []))))) (.branch 21 (.branch 19 (.branch 18 (.leaf (17, 0, 540, .inr 1, [])) (.leaf (19, 0, 4, .inl ((-2147483648), 2147483647), []))) (.branch 20 (.leaf (20, 0, 12, .inl ((-2147483648), 2147483647), [])) (.leaf (21, 0, 12, .inl ((-2147483648), 2147483647), [])))) (.branch 24 (.branch 22 (.leaf (22, 0, 12, .inl ((-2147483648), 2147483647), [])) (.leaf (23, 105, 6, .inr 3, [((0, []), zaI), ((1, []), .inr (.inr (.inr (.inl (0, 1600))))), ((2, []), .inr (.inr (.inr (.inl (0, 1600))))), ((3, []), zaI), ((4, []), .inr (.inr (.inr (.inr 3)))), ((5, []), .inr (.inr (.inr (.inl (0, 1600)))))]))) (.branch 25 (.leaf (25, 0, 4, .inl (0, 1600), [])) (.leaf (26, 0, 4, .inl (0, 1600), []))))), zw_70, [], zp_70.map (fun p => p.1))
def zu_70 : List zCu := [(([(17, 19, [(3, .inl (0, [(1, 1)])), (0, .inr (.inl 8)), (1, .inr (.inl 7)), (2, .inl (0, [(0, 1)]))], [])], .branch 16 (.branch 11 (.branch 9 (.branch 8 (.leaf (8, 1, 1600, .inl ((-128), 127), [])) (.leaf (9, 101, 8, .inr 3, [((0, []), .inr (.inl 9)), ((3, []), .inr (.inl 22)), ((5, []), .inr (.inr (.inr (.inl (0, 30))))), ((6, []), .inr (.inl 24)), ((7, []), .inr (.inl 25)), ((1, []), zaI), ((2, []), zaI), ((4, []), zaI)]))) (.branch 10 (.leaf (10, 102, 11, .inr 3, [((0, []), .inr (.inl 10)), ((1, []), .inr (.inl 13)), ((6, []), .inr (.inl 18)), ((8, []), .inr (.inl 19)), ((9, []), .inr (.inl 20)), ((10, []), .inr (.inl 21)), ((2, []), .inr (.inr (.inr (.inl (0, 1))))), ((3, []), zaI), ((4, []), zaI), ((5, []), .inr (.inr (.inr (.inl (0, 4))))), ((7, []), .inr (.inr (.inr (.inl (0, 12)))))])) (.leaf (11, 103, 5, .inr 3, [((3, []), .inr (.inl 11)), ((4, []), .inr (.inl 12)), ((0, []), zaI), ((1, []), .inr (.inr (.inr (.inl (0, 1))))), ((2, []), zaI)])))) (.branch 13 (.branch 12 (.leaf (12, 0, 2, .inl ((-2147483648), 2147483647), [])) (.leaf (13, 0, 12, .inl ((-2147483648), 2147483647), []))) (.branch 15 (.leaf (14, 104, 7, .inr 3, [((4, []), .inr (.inl 15)), ((5, []), .inr (.inl 16)), ((1, []), zaI), ((2, []), .inr (.inr (.inr (.inl (0, 4))))), ((3, []), .inr (.inr (.inr (.inl (0, 540)))))])) (.leaf (16, 0, 5, .inl (0, 540), []))))) (.branch 21 (.branch 19 (.branch 18 (.leaf (17, 0, 540, .inr 1, [])) (.leaf (19, 0, 4, .inl ((-2147483648), 2147483647), []))) (.branch 20 (.leaf (20, 0, 12, .inl ((-2147483648), 2147483647), [])) (.leaf (21, 0, 12, .inl ((-2147483648), 2147483647), [])))) (.branch 24 (.branch 22 (.leaf (22, 0, 12, .inl ((-2147483648), 2147483647), [])) (.leaf (23, 105, 6, .inr 3, [((4, []), .inr (.inl 7)), ((5, []), .inl (0, [(0, 1)])), ((0, []), zaI), ((1, []), .inr (.inr (.inr (.inl (0, 1600))))), ((2, []), .inr (.inr (.inr (.inl (0, 1600))))), ((3, []), zaI)]))) (.branch 25 (.leaf (25, 0, 4, .inl (0, 1600), [])) (.leaf (26, 0, 4, .inl (0, 1600), []))))), [(0, 1600), (0, 1600)], [], []), [.inl (0, 2), .inl (0, 3)], (1600, [(1, (-1))]))]
def zs_70 : List zCt := [zc_5, zc_69]
theorem za_70 : zwin zw_70 zc_70.2.2.2.2.2.1 = true := by decide +kernel
theorem z0_70 : zst0 mi_P zw_70 [] [] (fun d y as t en => zcal zw_70 d y as t en zs_70) zc_70 zp_70 zu_70 414 = true := by decide +kernel
theorem zk_70 : zu_70.all (zck mi_P zc_70.2.1 zw_70 false [] [] (fun d y as t en => zcal zw_70 d y as t en zs_70) zc_70.2.2.2.1.length zc_70.2.2.2.1 zc_70.2.2.2.2.2.1 zp_70 zu_70 414) = true := by decide +kernel
theorem zt_70 {S : Nat × (Nat → Int32)} : zCtr mi_P S zTt zc_70 := by
  have hc : ∀ c ∈ zs_70, zCtr mi_P S zTt c := by
    intro c hc
    simp only [zs_70, List.mem_cons, List.not_mem_nil, or_false] at hc
    rcases hc with rfl | rfl
    · exact zt_5
    · exact zt_69
  exact zCtr_of (Om := zTt) (ct := zc_70) (ps := zp_70) (fun _ _ _ _ => trivial) rfl hc za_70 z0_70 zk_70
/-- L$Formulas.odds(I)I -/
def zw_71 : zW := .leaf (375, [0])
def zp_71 : List (zPo × List (Nat ⊕ (Nat × zL))) := [(([], [], [(374, [])], some (.inr (.inr (.inr (.inl (0, 100)))))), [])]
def zc_71 : zCt := (67, 1, [.inr (.inl 370), .inr (.inr (.inr (.inl (0, 3))))], [], [], .branch 372 (.branch 371 (.leaf (371, 104, 7, .inr 3, [((0, []), .inr (.inl 371)), ((4, []), .inr (.inl 372)), ((5, []), .inr (.inl 373)), ((6, []), .inr (.inl 374))])) (.leaf (372, 0, 6, .inl ((-2147483648), 2147483647), []))) (.branch 373 (.leaf (373, 0, 5, .inl (0, 540), [])) (.branch 374 (.leaf (374, 0, 540, .inr 1, [])) (.leaf (375, 0, 30, .inl ((-2147483648), 2147483647), [])))), zw_71, [], zp_71.map (fun p => p.1))
def zu_71 : List zCu := [(([(67, 7, [(3, .inl (0, [(1, 1)])), (2, .inl (0, [(2, 1)])), (0, .inr (.inl 370)), (1, .inl (0, [(0, 1)]))], [])], .branch 372 (.branch 371 (.leaf (371, 104, 7, .inr 3, [((0, []), .inr (.inl 371)), ((4, []), .inr (.inl 372)), ((5, []), .inr (.inl 373)), ((6, []), .inr (.inl 374))])) (.leaf (372, 0, 6, .inl ((-2147483648), 2147483647), []))) (.branch 373 (.leaf (373, 0, 5, .inl (0, 540), [])) (.branch 374 (.leaf (374, 0, 540, .inr 1, [])) (.leaf (375, 0, 30, .inl ((-2147483648), 2147483647), [])))), [(0, 3), (0, 540), (0, 30)], [], []), [.inl (0, 1), .inl (0, 3), .inl (0, 2)], (540, [(1, (-1))]))]
def zs_71 : List zCt := []
theorem za_71 : zwin zw_71 zc_71.2.2.2.2.2.1 = true := by decide +kernel
theorem z0_71 : zst0 mi_P zw_71 [(68, 3), (68, 5), (68, 11), (68, 13), (68, 52), (68, 60)] [] (fun d y as t en => zcal zw_71 d y as t en zs_71) zc_71 zp_71 zu_71 906 = true := by decide +kernel
theorem zk_71 : zu_71.all (zck mi_P zc_71.2.1 zw_71 false [(68, 3), (68, 5), (68, 11), (68, 13), (68, 52), (68, 60)] [] (fun d y as t en => zcal zw_71 d y as t en zs_71) zc_71.2.2.2.1.length zc_71.2.2.2.1 zc_71.2.2.2.2.2.1 zp_71 zu_71 906) = true := by decide +kernel
theorem zt_71 {S : Nat × (Nat → Int32)} : zCtr mi_P S zTt zc_71 := by
  have hc : ∀ c ∈ zs_71, zCtr mi_P S zTt c := fun c hc => by cases hc
  exact zCtr_of (Om := zTt) (ct := zc_71) (ps := zp_71) (fun _ _ _ _ => trivial) rfl hc za_71 z0_71 zk_71
/-- L$Now.draw()I -/
def zw_72 : zW := .leaf (384, [2])
def zp_72 : List (zPo × List (Nat ⊕ (Nat × zL))) := [(([], [], [(383, [((2, []), zaI)])], some (.inr (.inr (.inr (.inl ((-99), 99)))))), [])]
def zc_72 : zCt := (84, 0, [.inr (.inl 383)], [], [], .leaf (384, 107, 14, .inr 3, [((2, []), zaI)]), zw_72, [], zp_72.map (fun p => p.1))
def zu_72 : List zCu := []
def zs_72 : List zCt := []
theorem za_72 : zwin zw_72 zc_72.2.2.2.2.2.1 = true := by decide +kernel
theorem z0_72 : zst0 mi_P zw_72 [] [] (fun d y as t en => zcal zw_72 d y as t en zs_72) zc_72 zp_72 zu_72 228 = true := by decide +kernel
theorem zk_72 : zu_72.all (zck mi_P zc_72.2.1 zw_72 false [] [] (fun d y as t en => zcal zw_72 d y as t en zs_72) zc_72.2.2.2.1.length zc_72.2.2.2.1 zc_72.2.2.2.2.2.1 zp_72 zu_72 228) = true := by decide +kernel
theorem zt_72 {S : Nat × (Nat → Int32)} : zCtr mi_P S zTt zc_72 := by
  have hc : ∀ c ∈ zs_72, zCtr mi_P S zTt c := fun c hc => by cases hc
  exact zCtr_of (Om := zTt) (ct := zc_72) (ps := zp_72) (fun _ _ _ _ => trivial) rfl hc za_72 z0_72 zk_72
/-- L$Now.leaveRow(II)V -/
def zw_73 : zW := .branch 389 (.leaf (389, [0])) (.leaf (390, [0]))
def zp_73 : List (zPo × List (Nat ⊕ (Nat × zL))) := [(([], [], [(388, []), (389, [])], none), [])]
def zc_73 : zCt := (86, 0, [.inr (.inl 383), .inl (2, []), zaI], [], [], .branch 388 (.leaf (384, 107, 14, .inr 3, [((11, []), .inr (.inl 388)), ((12, []), .inr (.inl 389))])) (.branch 389 (.leaf (389, 0, 3, .inl (0, 12), [])) (.leaf (390, 0, 36, .inl (0, 11), []))), zw_73, [], zp_73.map (fun p => p.1))
def zu_73 : List zCu := [(([(86, 8, [(5, .inl (0, [(1, 1)])), (4, .inl (24, [])), (3, .inl (0, [(2, 1)])), (0, .inr (.inl 383)), (1, .inl (2, [])), (2, .inl (0, [(0, 1)]))], [])], .branch 388 (.leaf (384, 107, 14, .inr 3, [((11, []), .inr (.inl 388)), ((12, []), .inr (.inl 389))])) (.branch 389 (.leaf (389, 0, 3, .inl (0, 12), [])) (.leaf (390, 0, 36, .inl (0, 11), []))), [((-2147483648), 2147483647), (0, 12), (0, 12)], [(0, [(1, (-1)), (2, 1)])], []), [.inl (0, 2), .inl (0, 5), .inl (0, 3)], (12, [(1, (-1))]))]
def zs_73 : List zCt := []
theorem za_73 : zwin zw_73 zc_73.2.2.2.2.2.1 = true := by decide +kernel
theorem z0_73 : zst0 mi_P zw_73 [] [] (fun d y as t en => zcal zw_73 d y as t en zs_73) zc_73 zp_73 zu_73 272 = true := by decide +kernel
theorem zk_73 : zu_73.all (zck mi_P zc_73.2.1 zw_73 false [] [] (fun d y as t en => zcal zw_73 d y as t en zs_73) zc_73.2.2.2.1.length zc_73.2.2.2.1 zc_73.2.2.2.2.2.1 zp_73 zu_73 272) = true := by decide +kernel
theorem zt_73 {S : Nat × (Nat → Int32)} : zCtr mi_P S zTt zc_73 := by
  have hc : ∀ c ∈ zs_73, zCtr mi_P S zTt c := fun c hc => by cases hc
  exact zCtr_of (Om := zTt) (ct := zc_73) (ps := zp_73) (fun _ _ _ _ => trivial) rfl hc za_73 z0_73 zk_73
/-- L$Now.leaveRow(II)V -/
def zw_74 : zW := .branch 389 (.leaf (389, [0])) (.leaf (390, [0]))
def zp_74 : List (zPo × List (Nat ⊕ (Nat × zL))) := [(([], [], [(388, []), (389, [])], none), [])]
def zc_74 : zCt := (86, 0, [.inr (.inl 383), .inl (0, []), zaI], [], [], .branch 388 (.leaf (384, 107, 14, .inr 3, [((11, []), .inr (.inl 388)), ((12, []), .inr (.inl 389))])) (.branch 389 (.leaf (389, 0, 3, .inl (0, 12), [])) (.leaf (390, 0, 36, .inl (0, 11), []))), zw_74, [], zp_74.map (fun p => p.1))
def zu_74 : List zCu := [(([(86, 8, [(5, .inl (0, [(1, 1)])), (4, .inl (0, [])), (3, .inl (0, [(2, 1)])), (0, .inr (.inl 383)), (1, .inl (0, [])), (2, .inl (0, [(0, 1)]))], [])], .branch 388 (.leaf (384, 107, 14, .inr 3, [((11, []), .inr (.inl 388)), ((12, []), .inr (.inl 389))])) (.branch 389 (.leaf (389, 0, 3, .inl (0, 12), [])) (.leaf (390, 0, 36, .inl (0, 11), []))), [((-2147483648), 2147483647), (0, 12), (0, 12)], [(0, [(1, (-1)), (2, 1)])], []), [.inl (0, 2), .inl (0, 5), .inl (0, 3)], (12, [(1, (-1))]))]
def zs_74 : List zCt := []
theorem za_74 : zwin zw_74 zc_74.2.2.2.2.2.1 = true := by decide +kernel
theorem z0_74 : zst0 mi_P zw_74 [] [] (fun d y as t en => zcal zw_74 d y as t en zs_74) zc_74 zp_74 zu_74 272 = true := by decide +kernel
theorem zk_74 : zu_74.all (zck mi_P zc_74.2.1 zw_74 false [] [] (fun d y as t en => zcal zw_74 d y as t en zs_74) zc_74.2.2.2.1.length zc_74.2.2.2.1 zc_74.2.2.2.2.2.1 zp_74 zu_74 272) = true := by decide +kernel
theorem zt_74 {S : Nat × (Nat → Int32)} : zCtr mi_P S zTt zc_74 := by
  have hc : ∀ c ∈ zs_74, zCtr mi_P S zTt c := fun c hc => by cases hc
  exact zCtr_of (Om := zTt) (ct := zc_74) (ps := zp_74) (fun _ _ _ _ => trivial) rfl hc za_74 z0_74 zk_74
/-- L$Now.leaveRow(II)V -/
def zw_75 : zW := .branch 389 (.leaf (389, [0])) (.leaf (390, [0]))
def zp_75 : List (zPo × List (Nat ⊕ (Nat × zL))) := [(([], [], [(388, []), (389, [])], none), [])]
def zc_75 : zCt := (86, 0, [.inr (.inl 383), .inl (1, []), zaI], [], [], .branch 388 (.leaf (384, 107, 14, .inr 3, [((11, []), .inr (.inl 388)), ((12, []), .inr (.inl 389))])) (.branch 389 (.leaf (389, 0, 3, .inl (0, 12), [])) (.leaf (390, 0, 36, .inl (0, 11), []))), zw_75, [], zp_75.map (fun p => p.1))
def zu_75 : List zCu := [(([(86, 8, [(5, .inl (0, [(1, 1)])), (4, .inl (12, [])), (3, .inl (0, [(2, 1)])), (0, .inr (.inl 383)), (1, .inl (1, [])), (2, .inl (0, [(0, 1)]))], [])], .branch 388 (.leaf (384, 107, 14, .inr 3, [((11, []), .inr (.inl 388)), ((12, []), .inr (.inl 389))])) (.branch 389 (.leaf (389, 0, 3, .inl (0, 12), [])) (.leaf (390, 0, 36, .inl (0, 11), []))), [((-2147483648), 2147483647), (0, 12), (0, 12)], [(0, [(1, (-1)), (2, 1)])], []), [.inl (0, 2), .inl (0, 5), .inl (0, 3)], (12, [(1, (-1))]))]
def zs_75 : List zCt := []
theorem za_75 : zwin zw_75 zc_75.2.2.2.2.2.1 = true := by decide +kernel
theorem z0_75 : zst0 mi_P zw_75 [] [] (fun d y as t en => zcal zw_75 d y as t en zs_75) zc_75 zp_75 zu_75 272 = true := by decide +kernel
theorem zk_75 : zu_75.all (zck mi_P zc_75.2.1 zw_75 false [] [] (fun d y as t en => zcal zw_75 d y as t en zs_75) zc_75.2.2.2.1.length zc_75.2.2.2.1 zc_75.2.2.2.2.2.1 zp_75 zu_75 272) = true := by decide +kernel
theorem zt_75 {S : Nat × (Nat → Int32)} : zCtr mi_P S zTt zc_75 := by
  have hc : ∀ c ∈ zs_75, zCtr mi_P S zTt c := fun c hc => by cases hc
  exact zCtr_of (Om := zTt) (ct := zc_75) (ps := zp_75) (fun _ _ _ _ => trivial) rfl hc za_75 z0_75 zk_75
/-- L$Now.noteOnBoard(I)V -/
def zw_76 : zW := .branch 384 (.leaf (384, [6])) (.leaf (385, [0]))
def zp_76 : List (zPo × List (Nat ⊕ (Nat × zL))) := [(([], [], [(383, [((6, []), .inr (.inr (.inr (.inl (0, 20)))))]), (384, [])], none), [])]
def zc_76 : zCt := (85, 0, [.inr (.inl 383), zaI], [], [], .branch 384 (.leaf (384, 107, 14, .inr 3, [((6, []), .inr (.inr (.inr (.inl (0, 20))))), ((7, []), .inr (.inl 384))])) (.leaf (385, 0, 20, .inl ((-2147483648), 2147483647), [])), zw_76, [], zp_76.map (fun p => p.1))
def zu_76 : List zCu := [(([(85, 2, [(2, .inl (0, [(1, 1)])), (0, .inr (.inl 383)), (1, .inl (0, [(0, 1)]))], [])], .branch 384 (.leaf (384, 107, 14, .inr 3, [((6, []), .inr (.inr (.inr (.inl (0, 20))))), ((7, []), .inr (.inl 384))])) (.leaf (385, 0, 20, .inl ((-2147483648), 2147483647), [])), [((-2147483648), 2147483647), (0, 19)], [], []), [.inl (0, 1), .inl (0, 2)], (0, [(1, 1)]))]
def zs_76 : List zCt := []
theorem za_76 : zwin zw_76 zc_76.2.2.2.2.2.1 = true := by decide +kernel
theorem z0_76 : zst0 mi_P zw_76 [] [] (fun d y as t en => zcal zw_76 d y as t en zs_76) zc_76 zp_76 zu_76 254 = true := by decide +kernel
theorem zk_76 : zu_76.all (zck mi_P zc_76.2.1 zw_76 false [] [] (fun d y as t en => zcal zw_76 d y as t en zs_76) zc_76.2.2.2.1.length zc_76.2.2.2.1 zc_76.2.2.2.2.2.1 zp_76 zu_76 254) = true := by decide +kernel
theorem zt_76 {S : Nat × (Nat → Int32)} : zCtr mi_P S zTt zc_76 := by
  have hc : ∀ c ∈ zs_76, zCtr mi_P S zTt c := fun c hc => by cases hc
  exact zCtr_of (Om := zTt) (ct := zc_76) (ps := zp_76) (fun _ _ _ _ => trivial) rfl hc za_76 z0_76 zk_76
/-- L$Course.come()V -/
def zw_77 : zW := .branch 388 (.leaf (387, [0])) (.branch 389 (.leaf (389, [0])) (.leaf (390, [0])))
def zp_77 : List (zPo × List (Nat ⊕ (Nat × zL))) := [(([], [], [(386, []), (388, []), (389, [])], none), [])]
def zc_77 : zCt := (79, 1, [.inr (.inl 379)], [], [], .branch 382 (.branch 379 (.branch 378 (.leaf (367, 102, 11, .inr 3, [((7, []), .inr (.inr (.inr (.inl (0, 12))))), ((10, []), .inr (.inl 378))])) (.leaf (379, 0, 12, .inl ((-2147483648), 2147483647), []))) (.branch 380 (.leaf (380, 109, 9, .inr 3, [((0, []), .inr (.inl 366)), ((1, []), .inr (.inl 380)), ((2, []), .inr (.inl 383))])) (.leaf (381, 103, 5, .inr 3, [((4, []), .inr (.inl 382))])))) (.branch 386 (.branch 383 (.leaf (383, 0, 12, .inl ((-2147483648), 2147483647), [])) (.leaf (384, 107, 14, .inr 3, [((0, []), zaI), ((9, []), .inr (.inl 386)), ((11, []), .inr (.inl 388)), ((12, []), .inr (.inl 389))]))) (.branch 388 (.leaf (387, 0, 12, .inl ((-2147483648), 2147483647), [])) (.branch 389 (.leaf (389, 0, 3, .inl (0, 12), [])) (.leaf (390, 0, 36, .inl (0, 11), []))))), zw_77, [], zp_77.map (fun p => p.1))
def zu_77 : List zCu := [(([(79, 2, [(1, .inl (0, [(0, 1)])), (0, .inr (.inl 379))], [])], .branch 382 (.branch 379 (.branch 378 (.leaf (367, 102, 11, .inr 3, [((7, []), .inr (.inr (.inr (.inl (0, 12))))), ((10, []), .inr (.inl 378))])) (.leaf (379, 0, 12, .inl ((-2147483648), 2147483647), []))) (.branch 380 (.leaf (380, 109, 9, .inr 3, [((0, []), .inr (.inl 366)), ((1, []), .inr (.inl 380)), ((2, []), .inr (.inl 383))])) (.leaf (381, 103, 5, .inr 3, [((4, []), .inr (.inl 382))])))) (.branch 386 (.branch 383 (.leaf (383, 0, 12, .inl ((-2147483648), 2147483647), [])) (.leaf (384, 107, 14, .inr 3, [((0, []), zaI), ((9, []), .inr (.inl 386)), ((11, []), .inr (.inl 388)), ((12, []), .inr (.inl 389))]))) (.branch 388 (.leaf (387, 0, 12, .inl ((-2147483648), 2147483647), [])) (.branch 389 (.leaf (389, 0, 3, .inl (0, 12), [])) (.leaf (390, 0, 36, .inl (0, 11), []))))), [(0, 12)], [], []), [.inl (0, 1)], (12, [(0, (-1))]))]
def zs_77 : List zCt := []
theorem za_77 : zwin zw_77 zc_77.2.2.2.2.2.1 = true := by decide +kernel
theorem z0_77 : zst0 mi_P zw_77 [] [] (fun d y as t en => zcal zw_77 d y as t en zs_77) zc_77 zp_77 zu_77 420 = true := by decide +kernel
theorem zk_77 : zu_77.all (zck mi_P zc_77.2.1 zw_77 false [] [] (fun d y as t en => zcal zw_77 d y as t en zs_77) zc_77.2.2.2.1.length zc_77.2.2.2.1 zc_77.2.2.2.2.2.1 zp_77 zu_77 420) = true := by decide +kernel
theorem zt_77 {S : Nat × (Nat → Int32)} : zCtr mi_P S zTt zc_77 := by
  have hc : ∀ c ∈ zs_77, zCtr mi_P S zTt c := fun c hc => by cases hc
  exact zCtr_of (Om := zTt) (ct := zc_77) (ps := zp_77) (fun _ _ _ _ => trivial) rfl hc za_77 z0_77 zk_77
/-- L$Course.firstInLock(I)I -/
def zw_78 : zW := .leaf (0, [])
def zp_78 : List (zPo × List (Nat ⊕ (Nat × zL))) := [(([], [], [], some (.inr (.inr (.inr (.inl ((-1), 11)))))), [])]
def zc_78 : zCt := (82, 1, [.inr (.inl 379), .inl (0, [])], [], [], .branch 383 (.branch 378 (.leaf (367, 102, 11, .inr 3, [((10, []), .inr (.inl 378))])) (.branch 379 (.leaf (379, 0, 12, .inl ((-2147483648), 2147483647), [])) (.leaf (380, 109, 9, .inr 3, [((0, []), .inr (.inl 366)), ((2, []), .inr (.inl 383))])))) (.branch 388 (.leaf (384, 107, 14, .inr 3, [((11, []), .inr (.inl 388)), ((12, []), .inr (.inl 389))])) (.branch 389 (.leaf (389, 0, 3, .inl (0, 12), [])) (.leaf (390, 0, 36, .inl (0, 11), [])))), zw_78, [], zp_78.map (fun p => p.1))
def zu_78 : List zCu := [(([(82, 2, [(2, .inl (0, [(0, 1)])), (0, .inr (.inl 379)), (1, .inl (0, []))], [])], .branch 383 (.branch 378 (.leaf (367, 102, 11, .inr 3, [((10, []), .inr (.inl 378))])) (.branch 379 (.leaf (379, 0, 12, .inl ((-2147483648), 2147483647), [])) (.leaf (380, 109, 9, .inr 3, [((0, []), .inr (.inl 366)), ((2, []), .inr (.inl 383))])))) (.branch 388 (.leaf (384, 107, 14, .inr 3, [((11, []), .inr (.inl 388)), ((12, []), .inr (.inl 389))])) (.branch 389 (.leaf (389, 0, 3, .inl (0, 12), [])) (.leaf (390, 0, 36, .inl (0, 11), [])))), [(0, 12)], [], []), [.inl (0, 2)], (12, [(0, (-1))]))]
def zs_78 : List zCt := []
theorem za_78 : zwin zw_78 zc_78.2.2.2.2.2.1 = true := by decide +kernel
theorem z0_78 : zst0 mi_P zw_78 [] [] (fun d y as t en => zcal zw_78 d y as t en zs_78) zc_78 zp_78 zu_78 282 = true := by decide +kernel
theorem zk_78 : zu_78.all (zck mi_P zc_78.2.1 zw_78 false [] [] (fun d y as t en => zcal zw_78 d y as t en zs_78) zc_78.2.2.2.1.length zc_78.2.2.2.1 zc_78.2.2.2.2.2.1 zp_78 zu_78 282) = true := by decide +kernel
theorem zt_78 {S : Nat × (Nat → Int32)} : zCtr mi_P S zTt zc_78 := by
  have hc : ∀ c ∈ zs_78, zCtr mi_P S zTt c := fun c hc => by cases hc
  exact zCtr_of (Om := zTt) (ct := zc_78) (ps := zp_78) (fun _ _ _ _ => trivial) rfl hc za_78 z0_78 zk_78
/-- L$Course.firstInLock(I)I -/
def zw_79 : zW := .leaf (0, [])
def zp_79 : List (zPo × List (Nat ⊕ (Nat × zL))) := [(([], [], [], some (.inr (.inr (.inr (.inl ((-1), 11)))))), [])]
def zc_79 : zCt := (82, 1, [.inr (.inl 379), .inl (1, [])], [], [], .branch 383 (.branch 378 (.leaf (367, 102, 11, .inr 3, [((10, []), .inr (.inl 378))])) (.branch 379 (.leaf (379, 0, 12, .inl ((-2147483648), 2147483647), [])) (.leaf (380, 109, 9, .inr 3, [((0, []), .inr (.inl 366)), ((2, []), .inr (.inl 383))])))) (.branch 388 (.leaf (384, 107, 14, .inr 3, [((11, []), .inr (.inl 388)), ((12, []), .inr (.inl 389))])) (.branch 389 (.leaf (389, 0, 3, .inl (0, 12), [])) (.leaf (390, 0, 36, .inl (0, 11), [])))), zw_79, [], zp_79.map (fun p => p.1))
def zu_79 : List zCu := [(([(82, 2, [(2, .inl (0, [(0, 1)])), (0, .inr (.inl 379)), (1, .inl (1, []))], [])], .branch 383 (.branch 378 (.leaf (367, 102, 11, .inr 3, [((10, []), .inr (.inl 378))])) (.branch 379 (.leaf (379, 0, 12, .inl ((-2147483648), 2147483647), [])) (.leaf (380, 109, 9, .inr 3, [((0, []), .inr (.inl 366)), ((2, []), .inr (.inl 383))])))) (.branch 388 (.leaf (384, 107, 14, .inr 3, [((11, []), .inr (.inl 388)), ((12, []), .inr (.inl 389))])) (.branch 389 (.leaf (389, 0, 3, .inl (0, 12), [])) (.leaf (390, 0, 36, .inl (0, 11), [])))), [(0, 12)], [], []), [.inl (0, 2)], (12, [(0, (-1))]))]
def zs_79 : List zCt := []
theorem za_79 : zwin zw_79 zc_79.2.2.2.2.2.1 = true := by decide +kernel
theorem z0_79 : zst0 mi_P zw_79 [] [] (fun d y as t en => zcal zw_79 d y as t en zs_79) zc_79 zp_79 zu_79 282 = true := by decide +kernel
theorem zk_79 : zu_79.all (zck mi_P zc_79.2.1 zw_79 false [] [] (fun d y as t en => zcal zw_79 d y as t en zs_79) zc_79.2.2.2.1.length zc_79.2.2.2.1 zc_79.2.2.2.2.2.1 zp_79 zu_79 282) = true := by decide +kernel
theorem zt_79 {S : Nat × (Nat → Int32)} : zCtr mi_P S zTt zc_79 := by
  have hc : ∀ c ∈ zs_79, zCtr mi_P S zTt c := fun c hc => by cases hc
  exact zCtr_of (Om := zTt) (ct := zc_79) (ps := zp_79) (fun _ _ _ _ => trivial) rfl hc za_79 z0_79 zk_79
/-- L$Course.seatsTaken()I -/
def zw_80 : zW := .leaf (0, [])
def zp_80 : List (zPo × List (Nat ⊕ (Nat × zL))) := [(([], [], [], some (zaI)), [])]
def zc_80 : zCt := (88, 1, [.inr (.inl 379)], [], [], .branch 383 (.branch 377 (.leaf (367, 102, 11, .inr 3, [((9, []), .inr (.inl 377))])) (.branch 379 (.leaf (378, 0, 12, .inl ((-2147483648), 2147483647), [])) (.leaf (380, 109, 9, .inr 3, [((0, []), .inr (.inl 366)), ((2, []), .inr (.inl 383))])))) (.branch 388 (.leaf (384, 107, 14, .inr 3, [((11, []), .inr (.inl 388)), ((12, []), .inr (.inl 389))])) (.branch 389 (.leaf (389, 0, 3, .inl (0, 12), [])) (.leaf (390, 0, 36, .inl (0, 11), [])))), zw_80, [], zp_80.map (fun p => p.1))
def zu_80 : List zCu := [(([(88, 4, [(2, .inl (0, [(0, 1)])), (1, .inl (0, [(1, 1)])), (0, .inr (.inl 379))], [])], .branch 383 (.branch 377 (.leaf (367, 102, 11, .inr 3, [((9, []), .inr (.inl 377))])) (.branch 379 (.leaf (378, 0, 12, .inl ((-2147483648), 2147483647), [])) (.leaf (380, 109, 9, .inr 3, [((0, []), .inr (.inl 366)), ((2, []), .inr (.inl 383))])))) (.branch 388 (.leaf (384, 107, 14, .inr 3, [((11, []), .inr (.inl 388)), ((12, []), .inr (.inl 389))])) (.branch 389 (.leaf (389, 0, 3, .inl (0, 12), [])) (.leaf (390, 0, 36, .inl (0, 11), [])))), [(0, 12), ((-2147483648), 2147483647)], [], []), [.inl (0, 2), .inl (0, 1)], (12, [(0, (-1))]))]
def zs_80 : List zCt := []
theorem za_80 : zwin zw_80 zc_80.2.2.2.2.2.1 = true := by decide +kernel
theorem z0_80 : zst0 mi_P zw_80 [] [] (fun d y as t en => zcal zw_80 d y as t en zs_80) zc_80 zp_80 zu_80 278 = true := by decide +kernel
theorem zk_80 : zu_80.all (zck mi_P zc_80.2.1 zw_80 false [] [] (fun d y as t en => zcal zw_80 d y as t en zs_80) zc_80.2.2.2.1.length zc_80.2.2.2.1 zc_80.2.2.2.2.2.1 zp_80 zu_80 278) = true := by decide +kernel
theorem zt_80 {S : Nat × (Nat → Int32)} : zCtr mi_P S zTt zc_80 := by
  have hc : ∀ c ∈ zs_80, zCtr mi_P S zTt c := fun c hc => by cases hc
  exact zCtr_of (Om := zTt) (ct := zc_80) (ps := zp_80) (fun _ _ _ _ => trivial) rfl hc za_80 z0_80 zk_80
/-- L$Course.headsInLock()I -/
def zw_81 : zW := .leaf (0, [])
def zp_81 : List (zPo × List (Nat ⊕ (Nat × zL))) := [(([], [], [], some (zaI)), [])]
def zc_81 : zCt := (64, 1, [.inr (.inl 379)], [], [], .branch 383 (.branch 376 (.leaf (367, 102, 11, .inr 3, [((8, []), .inr (.inl 376))])) (.branch 379 (.leaf (377, 0, 12, .inl ((-2147483648), 2147483647), [])) (.leaf (380, 109, 9, .inr 3, [((0, []), .inr (.inl 366)), ((2, []), .inr (.inl 383))])))) (.branch 388 (.leaf (384, 107, 14, .inr 3, [((11, []), .inr (.inl 388)), ((12, []), .inr (.inl 389))])) (.branch 389 (.leaf (389, 0, 3, .inl (0, 12), [])) (.leaf (390, 0, 36, .inl (0, 11), [])))), zw_81, [], zp_81.map (fun p => p.1))
def zu_81 : List zCu := [(([(64, 4, [(2, .inl (0, [(0, 1)])), (1, .inl (0, [(1, 1)])), (0, .inr (.inl 379))], [])], .branch 383 (.branch 376 (.leaf (367, 102, 11, .inr 3, [((8, []), .inr (.inl 376))])) (.branch 379 (.leaf (377, 0, 12, .inl ((-2147483648), 2147483647), [])) (.leaf (380, 109, 9, .inr 3, [((0, []), .inr (.inl 366)), ((2, []), .inr (.inl 383))])))) (.branch 388 (.leaf (384, 107, 14, .inr 3, [((11, []), .inr (.inl 388)), ((12, []), .inr (.inl 389))])) (.branch 389 (.leaf (389, 0, 3, .inl (0, 12), [])) (.leaf (390, 0, 36, .inl (0, 11), [])))), [(0, 12), ((-2147483648), 2147483647)], [], []), [.inl (0, 2), .inl (0, 1)], (12, [(0, (-1))]))]
def zs_81 : List zCt := []
theorem za_81 : zwin zw_81 zc_81.2.2.2.2.2.1 = true := by decide +kernel
theorem z0_81 : zst0 mi_P zw_81 [] [] (fun d y as t en => zcal zw_81 d y as t en zs_81) zc_81 zp_81 zu_81 278 = true := by decide +kernel
theorem zk_81 : zu_81.all (zck mi_P zc_81.2.1 zw_81 false [] [] (fun d y as t en => zcal zw_81 d y as t en zs_81) zc_81.2.2.2.1.length zc_81.2.2.2.1 zc_81.2.2.2.2.2.1 zp_81 zu_81 278) = true := by decide +kernel
theorem zt_81 {S : Nat × (Nat → Int32)} : zCtr mi_P S zTt zc_81 := by
  have hc : ∀ c ∈ zs_81, zCtr mi_P S zTt c := fun c hc => by cases hc
  exact zCtr_of (Om := zTt) (ct := zc_81) (ps := zp_81) (fun _ _ _ _ => trivial) rfl hc za_81 z0_81 zk_81
/-- L$Course.pass(II)Z -/
def zw_82 : zW := .branch 384 (.branch 383 (.leaf (380, [3, 4, 5])) (.leaf (384, [2, 6]))) (.branch 385 (.leaf (385, [0])) (.leaf (386, [0])))
def zp_82 : List (zPo × List (Nat ⊕ (Nat × zL))) := [(([], [], [(379, [((3, []), zaI), ((4, []), zaI), ((5, []), zaI)]), (383, [((2, []), zaI), ((6, []), .inr (.inr (.inr (.inl (0, 20)))))]), (384, []), (385, [])], some (.inr (.inr (.inr (.inl (0, 1)))))), [])]
def zc_82 : zCt := (83, 1, [.inr (.inl 379), .inl (0, []), .inr (.inr (.inr (.inl (0, 11))))], [], [], .branch 383 (.branch 380 (.leaf (380, 109, 9, .inr 3, [((1, []), .inr (.inl 380)), ((2, []), .inr (.inl 383)), ((3, []), zaI), ((4, []), zaI), ((5, []), zaI)])) (.branch 381 (.leaf (381, 103, 5, .inr 3, [((1, []), .inr (.inr (.inr (.inl (0, 1))))), ((2, []), zaI), ((3, []), .inr (.inl 381))])) (.leaf (382, 0, 2, .inl ((-2147483648), 2147483647), [])))) (.branch 384 (.leaf (384, 107, 14, .inr 3, [((2, []), zaI), ((6, []), .inr (.inr (.inr (.inl (0, 20))))), ((7, []), .inr (.inl 384)), ((8, []), .inr (.inl 385))])) (.branch 385 (.leaf (385, 0, 20, .inl ((-2147483648), 2147483647), [])) (.leaf (386, 0, 2, .inl ((-2147483648), 2147483647), [])))), zw_82, [], zp_82.map (fun p => p.1))
def zu_82 : List zCu := []
def zs_82 : List zCt := [zc_72, zc_76]
theorem za_82 : zwin zw_82 zc_82.2.2.2.2.2.1 = true := by decide +kernel
theorem z0_82 : zst0 mi_P zw_82 [] [] (fun d y as t en => zcal zw_82 d y as t en zs_82) zc_82 zp_82 zu_82 378 = true := by decide +kernel
theorem zk_82 : zu_82.all (zck mi_P zc_82.2.1 zw_82 false [] [] (fun d y as t en => zcal zw_82 d y as t en zs_82) zc_82.2.2.2.1.length zc_82.2.2.2.1 zc_82.2.2.2.2.2.1 zp_82 zu_82 378) = true := by decide +kernel
theorem zt_82 {S : Nat × (Nat → Int32)} : zCtr mi_P S zTt zc_82 := by
  have hc : ∀ c ∈ zs_82, zCtr mi_P S zTt c := by
    intro c hc
    simp only [zs_82, List.mem_cons, List.not_mem_nil, or_false] at hc
    rcases hc with rfl | rfl
    · exact zt_72
    · exact zt_76
  exact zCtr_of (Om := zTt) (ct := zc_82) (ps := zp_82) (fun _ _ _ _ => trivial) rfl hc za_82 z0_82 zk_82
/-- L$Course.pass(II)Z -/
def zw_83 : zW := .branch 384 (.branch 383 (.leaf (380, [3, 4, 5])) (.leaf (384, [2, 6]))) (.branch 385 (.leaf (385, [0])) (.leaf (386, [0])))
def zp_83 : List (zPo × List (Nat ⊕ (Nat × zL))) := [(([], [], [(379, [((3, []), zaI), ((4, []), zaI), ((5, []), zaI)]), (383, [((2, []), zaI), ((6, []), .inr (.inr (.inr (.inl (0, 20)))))]), (384, []), (385, [])], some (.inr (.inr (.inr (.inl (0, 1)))))), [])]
def zc_83 : zCt := (83, 1, [.inr (.inl 379), .inl (1, []), .inr (.inr (.inr (.inl (0, 11))))], [], [], .branch 383 (.branch 380 (.leaf (380, 109, 9, .inr 3, [((1, []), .inr (.inl 380)), ((2, []), .inr (.inl 383)), ((3, []), zaI), ((4, []), zaI), ((5, []), zaI)])) (.branch 381 (.leaf (381, 103, 5, .inr 3, [((1, []), .inr (.inr (.inr (.inl (0, 1))))), ((2, []), zaI), ((3, []), .inr (.inl 381))])) (.leaf (382, 0, 2, .inl ((-2147483648), 2147483647), [])))) (.branch 384 (.leaf (384, 107, 14, .inr 3, [((2, []), zaI), ((6, []), .inr (.inr (.inr (.inl (0, 20))))), ((7, []), .inr (.inl 384)), ((8, []), .inr (.inl 385))])) (.branch 385 (.leaf (385, 0, 20, .inl ((-2147483648), 2147483647), [])) (.leaf (386, 0, 2, .inl ((-2147483648), 2147483647), [])))), zw_83, [], zp_83.map (fun p => p.1))
def zu_83 : List zCu := []
def zs_83 : List zCt := [zc_72, zc_76]
theorem za_83 : zwin zw_83 zc_83.2.2.2.2.2.1 = true := by decide +kernel
theorem z0_83 : zst0 mi_P zw_83 [] [] (fun d y as t en => zcal zw_83 d y as t en zs_83) zc_83 zp_83 zu_83 376 = true := by decide +kernel
theorem zk_83 : zu_83.all (zck mi_P zc_83.2.1 zw_83 false [] [] (fun d y as t en => zcal zw_83 d y as t en zs_83) zc_83.2.2.2.1.length zc_83.2.2.2.1 zc_83.2.2.2.2.2.1 zp_83 zu_83 376) = true := by decide +kernel
theorem zt_83 {S : Nat × (Nat → Int32)} : zCtr mi_P S zTt zc_83 := by
  have hc : ∀ c ∈ zs_83, zCtr mi_P S zTt c := by
    intro c hc
    simp only [zs_83, List.mem_cons, List.not_mem_nil, or_false] at hc
    rcases hc with rfl | rfl
    · exact zt_72
    · exact zt_76
  exact zCtr_of (Om := zTt) (ct := zc_83) (ps := zp_83) (fun _ _ _ _ => trivial) rfl hc za_83 z0_83 zk_83
/-- L$Course.leaveLock(II)V -/
def zw_84 : zW := .branch 385 (.branch 383 (.leaf (380, [3, 4, 5])) (.branch 384 (.leaf (384, [2, 6])) (.leaf (385, [0])))) (.branch 388 (.branch 386 (.leaf (386, [0])) (.leaf (387, [0]))) (.branch 389 (.leaf (389, [0])) (.leaf (390, [0]))))
def zp_84 : List (zPo × List (Nat ⊕ (Nat × zL))) := [(([], [], [(379, [((3, []), zaI), ((4, []), zaI), ((5, []), zaI)]), (383, [((2, []), zaI), ((6, []), .inr (.inr (.inr (.inl (0, 20)))))]), (384, []), (385, []), (386, []), (388, []), (389, [])], none), [])]
def zc_84 : zCt := (81, 2, [.inr (.inl 379), .inl (1, []), .inl (1, [])], [], [], .branch 383 (.branch 379 (.branch 378 (.leaf (367, 102, 11, .inr 3, [((10, []), .inr (.inl 378))])) (.leaf (379, 0, 12, .inl ((-2147483648), 2147483647), []))) (.branch 380 (.leaf (380, 109, 9, .inr 3, [((0, []), .inr (.inl 366)), ((1, []), .inr (.inl 380)), ((2, []), .inr (.inl 383)), ((3, []), zaI), ((4, []), zaI), ((5, []), zaI)])) (.branch 381 (.leaf (381, 103, 5, .inr 3, [((1, []), .inr (.inr (.inr (.inl (0, 1))))), ((2, []), zaI), ((3, []), .inr (.inl 381))])) (.leaf (382, 0, 2, .inl ((-2147483648), 2147483647), []))))) (.branch 386 (.branch 384 (.leaf (384, 107, 14, .inr 3, [((2, []), zaI), ((6, []), .inr (.inr (.inr (.inl (0, 20))))), ((7, []), .inr (.inl 384)), ((8, []), .inr (.inl 385)), ((9, []), .inr (.inl 386)), ((11, []), .inr (.inl 388)), ((12, []), .inr (.inl 389))])) (.branch 385 (.leaf (385, 0, 20, .inl ((-2147483648), 2147483647), [])) (.leaf (386, 0, 2, .inl ((-2147483648), 2147483647), [])))) (.branch 388 (.leaf (387, 0, 12, .inl ((-2147483648), 2147483647), [])) (.branch 389 (.leaf (389, 0, 3, .inl (0, 12), [])) (.leaf (390, 0, 36, .inl (0, 11), []))))), zw_84, [], zp_84.map (fun p => p.1))
def zu_84 : List zCu := []
def zs_84 : List zCt := [zc_79, zc_83, zc_73]
theorem za_84 : zwin zw_84 zc_84.2.2.2.2.2.1 = true := by decide +kernel
theorem z0_84 : zst0 mi_P zw_84 [] [] (fun d y as t en => zcal zw_84 d y as t en zs_84) zc_84 zp_84 zu_84 246 = true := by decide +kernel
theorem zk_84 : zu_84.all (zck mi_P zc_84.2.1 zw_84 false [] [] (fun d y as t en => zcal zw_84 d y as t en zs_84) zc_84.2.2.2.1.length zc_84.2.2.2.1 zc_84.2.2.2.2.2.1 zp_84 zu_84 246) = true := by decide +kernel
theorem zt_84 {S : Nat × (Nat → Int32)} : zCtr mi_P S zTt zc_84 := by
  have hc : ∀ c ∈ zs_84, zCtr mi_P S zTt c := by
    intro c hc
    simp only [zs_84, List.mem_cons, List.not_mem_nil, or_false] at hc
    rcases hc with rfl | rfl | rfl
    · exact zt_79
    · exact zt_83
    · exact zt_73
  exact zCtr_of (Om := zTt) (ct := zc_84) (ps := zp_84) (fun _ _ _ _ => trivial) rfl hc za_84 z0_84 zk_84
/-- L$Course.leaveLock(II)V -/
def zw_85 : zW := .branch 385 (.branch 383 (.leaf (380, [3, 4, 5])) (.branch 384 (.leaf (384, [2, 6])) (.leaf (385, [0])))) (.branch 388 (.branch 386 (.leaf (386, [0])) (.leaf (387, [0]))) (.branch 389 (.leaf (389, [0])) (.leaf (390, [0]))))
def zp_85 : List (zPo × List (Nat ⊕ (Nat × zL))) := [(([], [], [(379, [((3, []), zaI), ((4, []), zaI), ((5, []), zaI)]), (383, [((2, []), zaI), ((6, []), .inr (.inr (.inr (.inl (0, 20)))))]), (384, []), (385, []), (386, []), (388, []), (389, [])], none), [])]
def zc_85 : zCt := (81, 2, [.inr (.inl 379), .inl (0, []), .inl (0, [])], [], [], .branch 383 (.branch 379 (.branch 378 (.leaf (367, 102, 11, .inr 3, [((10, []), .inr (.inl 378))])) (.leaf (379, 0, 12, .inl ((-2147483648), 2147483647), []))) (.branch 380 (.leaf (380, 109, 9, .inr 3, [((0, []), .inr (.inl 366)), ((1, []), .inr (.inl 380)), ((2, []), .inr (.inl 383)), ((3, []), zaI), ((4, []), zaI), ((5, []), zaI)])) (.branch 381 (.leaf (381, 103, 5, .inr 3, [((1, []), .inr (.inr (.inr (.inl (0, 1))))), ((2, []), zaI), ((3, []), .inr (.inl 381))])) (.leaf (382, 0, 2, .inl ((-2147483648), 2147483647), []))))) (.branch 386 (.branch 384 (.leaf (384, 107, 14, .inr 3, [((2, []), zaI), ((6, []), .inr (.inr (.inr (.inl (0, 20))))), ((7, []), .inr (.inl 384)), ((8, []), .inr (.inl 385)), ((9, []), .inr (.inl 386)), ((11, []), .inr (.inl 388)), ((12, []), .inr (.inl 389))])) (.branch 385 (.leaf (385, 0, 20, .inl ((-2147483648), 2147483647), [])) (.leaf (386, 0, 2, .inl ((-2147483648), 2147483647), [])))) (.branch 388 (.leaf (387, 0, 12, .inl ((-2147483648), 2147483647), [])) (.branch 389 (.leaf (389, 0, 3, .inl (0, 12), [])) (.leaf (390, 0, 36, .inl (0, 11), []))))), zw_85, [], zp_85.map (fun p => p.1))
def zu_85 : List zCu := []
def zs_85 : List zCt := [zc_78, zc_82, zc_73]
theorem za_85 : zwin zw_85 zc_85.2.2.2.2.2.1 = true := by decide +kernel
theorem z0_85 : zst0 mi_P zw_85 [] [] (fun d y as t en => zcal zw_85 d y as t en zs_85) zc_85 zp_85 zu_85 246 = true := by decide +kernel
theorem zk_85 : zu_85.all (zck mi_P zc_85.2.1 zw_85 false [] [] (fun d y as t en => zcal zw_85 d y as t en zs_85) zc_85.2.2.2.1.length zc_85.2.2.2.1 zc_85.2.2.2.2.2.1 zp_85 zu_85 246) = true := by decide +kernel
theorem zt_85 {S : Nat × (Nat → Int32)} : zCtr mi_P S zTt zc_85 := by
  have hc : ∀ c ∈ zs_85, zCtr mi_P S zTt c := by
    intro c hc
    simp only [zs_85, List.mem_cons, List.not_mem_nil, or_false] at hc
    rcases hc with rfl | rfl | rfl
    · exact zt_78
    · exact zt_82
    · exact zt_73
  exact zCtr_of (Om := zTt) (ct := zc_85) (ps := zp_85) (fun _ _ _ _ => trivial) rfl hc za_85 z0_85 zk_85
/-- L$Course.enterLock(II)V -/
def zw_86 : zW := .branch 386 (.branch 384 (.branch 383 (.leaf (380, [3, 4, 5])) (.leaf (384, [2, 6]))) (.branch 385 (.leaf (385, [0])) (.leaf (386, [0])))) (.branch 388 (.branch 387 (.leaf (387, [0])) (.leaf (388, [0]))) (.branch 389 (.leaf (389, [0])) (.leaf (390, [0]))))
def zp_86 : List (zPo × List (Nat ⊕ (Nat × zL))) := [(([], [], [(379, [((3, []), zaI), ((4, []), zaI), ((5, []), zaI)]), (383, [((2, []), zaI), ((6, []), .inr (.inr (.inr (.inl (0, 20)))))]), (384, []), (385, []), (386, []), (387, []), (388, []), (389, [])], none), [])]
def zc_86 : zCt := (87, 2, [.inr (.inl 379), .inl (0, []), .inl (0, [])], [], [], .branch 383 (.branch 380 (.branch 377 (.leaf (367, 102, 11, .inr 3, [((9, []), .inr (.inl 377))])) (.branch 379 (.leaf (378, 0, 12, .inl ((-2147483648), 2147483647), [])) (.leaf (380, 109, 9, .inr 3, [((0, []), .inr (.inl 366)), ((1, []), .inr (.inl 380)), ((2, []), .inr (.inl 383)), ((3, []), zaI), ((4, []), zaI), ((5, []), zaI)])))) (.branch 381 (.leaf (381, 103, 5, .inr 3, [((0, []), zaI), ((1, []), .inr (.inr (.inr (.inl (0, 1))))), ((2, []), zaI), ((3, []), .inr (.inl 381)), ((4, []), .inr (.inl 382))])) (.branch 382 (.leaf (382, 0, 2, .inl ((-2147483648), 2147483647), [])) (.leaf (383, 0, 12, .inl ((-2147483648), 2147483647), []))))) (.branch 386 (.branch 384 (.leaf (384, 107, 14, .inr 3, [((0, []), zaI), ((2, []), zaI), ((6, []), .inr (.inr (.inr (.inl (0, 20))))), ((7, []), .inr (.inl 384)), ((8, []), .inr (.inl 385)), ((9, []), .inr (.inl 386)), ((10, []), .inr (.inl 387)), ((11, []), .inr (.inl 388)), ((12, []), .inr (.inl 389))])) (.branch 385 (.leaf (385, 0, 20, .inl ((-2147483648), 2147483647), [])) (.leaf (386, 0, 2, .inl ((-2147483648), 2147483647), [])))) (.branch 388 (.branch 387 (.leaf (387, 0, 12, .inl ((-2147483648), 2147483647), [])) (.leaf (388, 0, 12, .inl ((-2147483648), 2147483647), []))) (.branch 389 (.leaf (389, 0, 3, .inl (0, 12), [])) (.leaf (390, 0, 36, .inl (0, 11), []))))), zw_86, [], zp_86.map (fun p => p.1))
def zu_86 : List zCu := []
def zs_86 : List zCt := [zc_80, zc_82, zc_74]
theorem za_86 : zwin zw_86 zc_86.2.2.2.2.2.1 = true := by decide +kernel
theorem z0_86 : zst0 mi_P zw_86 [] [] (fun d y as t en => zcal zw_86 d y as t en zs_86) zc_86 zp_86 zu_86 456 = true := by decide +kernel
theorem zk_86 : zu_86.all (zck mi_P zc_86.2.1 zw_86 false [] [] (fun d y as t en => zcal zw_86 d y as t en zs_86) zc_86.2.2.2.1.length zc_86.2.2.2.1 zc_86.2.2.2.2.2.1 zp_86 zu_86 456) = true := by decide +kernel
theorem zt_86 {S : Nat × (Nat → Int32)} : zCtr mi_P S zTt zc_86 := by
  have hc : ∀ c ∈ zs_86, zCtr mi_P S zTt c := by
    intro c hc
    simp only [zs_86, List.mem_cons, List.not_mem_nil, or_false] at hc
    rcases hc with rfl | rfl | rfl
    · exact zt_80
    · exact zt_82
    · exact zt_74
  exact zCtr_of (Om := zTt) (ct := zc_86) (ps := zp_86) (fun _ _ _ _ => trivial) rfl hc za_86 z0_86 zk_86
/-- L$Course.enterLock(II)V -/
def zw_87 : zW := .branch 386 (.branch 384 (.branch 383 (.leaf (380, [3, 4, 5])) (.leaf (384, [2, 6]))) (.branch 385 (.leaf (385, [0])) (.leaf (386, [0])))) (.branch 388 (.branch 387 (.leaf (387, [0])) (.leaf (388, [0]))) (.branch 389 (.leaf (389, [0])) (.leaf (390, [0]))))
def zp_87 : List (zPo × List (Nat ⊕ (Nat × zL))) := [(([], [], [(379, [((3, []), zaI), ((4, []), zaI), ((5, []), zaI)]), (383, [((2, []), zaI), ((6, []), .inr (.inr (.inr (.inl (0, 20)))))]), (384, []), (385, []), (386, []), (387, []), (388, []), (389, [])], none), [])]
def zc_87 : zCt := (87, 2, [.inr (.inl 379), .inl (1, []), .inl (1, [])], [], [], .branch 383 (.branch 380 (.branch 377 (.leaf (367, 102, 11, .inr 3, [((9, []), .inr (.inl 377))])) (.branch 379 (.leaf (378, 0, 12, .inl ((-2147483648), 2147483647), [])) (.leaf (380, 109, 9, .inr 3, [((0, []), .inr (.inl 366)), ((1, []), .inr (.inl 380)), ((2, []), .inr (.inl 383)), ((3, []), zaI), ((4, []), zaI), ((5, []), zaI)])))) (.branch 381 (.leaf (381, 103, 5, .inr 3, [((0, []), zaI), ((1, []), .inr (.inr (.inr (.inl (0, 1))))), ((2, []), zaI), ((3, []), .inr (.inl 381)), ((4, []), .inr (.inl 382))])) (.branch 382 (.leaf (382, 0, 2, .inl ((-2147483648), 2147483647), [])) (.leaf (383, 0, 12, .inl ((-2147483648), 2147483647), []))))) (.branch 386 (.branch 384 (.leaf (384, 107, 14, .inr 3, [((0, []), zaI), ((2, []), zaI), ((6, []), .inr (.inr (.inr (.inl (0, 20))))), ((7, []), .inr (.inl 384)), ((8, []), .inr (.inl 385)), ((9, []), .inr (.inl 386)), ((10, []), .inr (.inl 387)), ((11, []), .inr (.inl 388)), ((12, []), .inr (.inl 389))])) (.branch 385 (.leaf (385, 0, 20, .inl ((-2147483648), 2147483647), [])) (.leaf (386, 0, 2, .inl ((-2147483648), 2147483647), [])))) (.branch 388 (.branch 387 (.leaf (387, 0, 12, .inl ((-2147483648), 2147483647), [])) (.leaf (388, 0, 12, .inl ((-2147483648), 2147483647), []))) (.branch 389 (.leaf (389, 0, 3, .inl (0, 12), [])) (.leaf (390, 0, 36, .inl (0, 11), []))))), zw_87, [], zp_87.map (fun p => p.1))
def zu_87 : List zCu := []
def zs_87 : List zCt := [zc_80, zc_83, zc_75]
theorem za_87 : zwin zw_87 zc_87.2.2.2.2.2.1 = true := by decide +kernel
theorem z0_87 : zst0 mi_P zw_87 [] [] (fun d y as t en => zcal zw_87 d y as t en zs_87) zc_87 zp_87 zu_87 456 = true := by decide +kernel
theorem zk_87 : zu_87.all (zck mi_P zc_87.2.1 zw_87 false [] [] (fun d y as t en => zcal zw_87 d y as t en zs_87) zc_87.2.2.2.1.length zc_87.2.2.2.1 zc_87.2.2.2.2.2.1 zp_87 zu_87 456) = true := by decide +kernel
theorem zt_87 {S : Nat × (Nat → Int32)} : zCtr mi_P S zTt zc_87 := by
  have hc : ∀ c ∈ zs_87, zCtr mi_P S zTt c := by
    intro c hc
    simp only [zs_87, List.mem_cons, List.not_mem_nil, or_false] at hc
    rcases hc with rfl | rfl | rfl
    · exact zt_80
    · exact zt_83
    · exact zt_75
  exact zCtr_of (Om := zTt) (ct := zc_87) (ps := zp_87) (fun _ _ _ _ => trivial) rfl hc za_87 z0_87 zk_87
/-- L$Course.tally()V -/
def zw_88 : zW := .branch 391 (.branch 383 (.leaf (380, [6])) (.leaf (384, [3]))) (.branch 392 (.leaf (392, [0])) (.leaf (393, [0])))
def zp_88 : List (zPo × List (Nat ⊕ (Nat × zL))) := [(([], [], [(379, [((6, []), zaI)]), (383, [((3, []), zaI)]), (391, []), (392, [])], none), [])]
def zc_88 : zCt := (89, 2, [.inr (.inl 379)], [], [], .branch 385 (.branch 378 (.branch 376 (.leaf (367, 102, 11, .inr 3, [((8, []), .inr (.inl 376)), ((10, []), .inr (.inl 378))])) (.leaf (377, 0, 12, .inl ((-2147483648), 2147483647), []))) (.branch 379 (.leaf (379, 0, 12, .inl ((-2147483648), 2147483647), [])) (.branch 383 (.leaf (380, 109, 9, .inr 3, [((0, []), .inr (.inl 366)), ((2, []), .inr (.inl 383)), ((6, []), zaI), ((7, []), .inr (.inl 391)), ((8, []), .inr (.inl 392))])) (.leaf (384, 107, 14, .inr 3, [((3, []), zaI), ((8, []), .inr (.inl 385)), ((11, []), .inr (.inl 388)), ((12, []), .inr (.inl 389))]))))) (.branch 389 (.branch 388 (.leaf (386, 0, 2, .inl ((-2147483648), 2147483647), [])) (.leaf (389, 0, 3, .inl (0, 12), []))) (.branch 391 (.leaf (390, 0, 36, .inl (0, 11), [])) (.branch 392 (.leaf (392, 0, 2, .inl ((-2147483648), 2147483647), [])) (.leaf (393, 0, 3, .inl ((-2147483648), 2147483647), []))))), zw_88, [], zp_88.map (fun p => p.1))
def zu_88 : List zCu := []
def zs_88 : List zCt := [zc_81, zc_79, zc_78]
theorem za_88 : zwin zw_88 zc_88.2.2.2.2.2.1 = true := by decide +kernel
theorem z0_88 : zst0 mi_P zw_88 [] [] (fun d y as t en => zcal zw_88 d y as t en zs_88) zc_88 zp_88 zu_88 884 = true := by decide +kernel
theorem zk_88 : zu_88.all (zck mi_P zc_88.2.1 zw_88 false [] [] (fun d y as t en => zcal zw_88 d y as t en zs_88) zc_88.2.2.2.1.length zc_88.2.2.2.1 zc_88.2.2.2.2.2.1 zp_88 zu_88 884) = true := by decide +kernel
theorem zt_88 {S : Nat × (Nat → Int32)} : zCtr mi_P S zTt zc_88 := by
  have hc : ∀ c ∈ zs_88, zCtr mi_P S zTt c := by
    intro c hc
    simp only [zs_88, List.mem_cons, List.not_mem_nil, or_false] at hc
    rcases hc with rfl | rfl | rfl
    · exact zt_81
    · exact zt_79
    · exact zt_78
  exact zCtr_of (Om := zTt) (ct := zc_88) (ps := zp_88) (fun _ _ _ _ => trivial) rfl hc za_88 z0_88 zk_88
/-- L$Course.slip()V -/
def zw_89 : zW := .branch 383 (.branch 374 (.leaf (372, [0])) (.leaf (375, [0]))) (.branch 390 (.leaf (384, [2])) (.leaf (391, [0])))
def zp_89 : List (zPo × List (Nat ⊕ (Nat × zL))) := [(([], [], [(371, []), (374, []), (383, [((2, []), zaI)]), (390, [])], none), [])]
def zc_89 : zCt := (90, 3, [.inr (.inl 379)], [], [], .branch 376 (.branch 372 (.branch 370 (.leaf (367, 102, 11, .inr 3, [((1, []), .inr (.inl 370)), ((5, []), .inr (.inr (.inr (.inl (0, 4))))), ((8, []), .inr (.inl 376))])) (.branch 371 (.leaf (371, 104, 7, .inr 3, [((0, []), .inr (.inl 371)), ((4, []), .inr (.inl 372)), ((5, []), .inr (.inl 373)), ((6, []), .inr (.inl 374))])) (.leaf (372, 0, 6, .inl ((-2147483648), 2147483647), [])))) (.branch 373 (.leaf (373, 0, 5, .inl (0, 540), [])) (.branch 374 (.leaf (374, 0, 540, .inr 1, [])) (.leaf (375, 0, 30, .inl ((-2147483648), 2147483647), []))))) (.branch 385 (.branch 379 (.leaf (377, 0, 12, .inl ((-2147483648), 2147483647), [])) (.branch 383 (.leaf (380, 109, 9, .inr 3, [((0, []), .inr (.inl 366)), ((2, []), .inr (.inl 383))])) (.leaf (384, 107, 14, .inr 3, [((1, []), zaI), ((2, []), zaI), ((4, []), zaI), ((5, []), .inr (.inr (.inr (.inl (0, 1))))), ((8, []), .inr (.inl 385)), ((11, []), .inr (.inl 388)), ((12, []), .inr (.inl 389)), ((13, []), .inr (.inl 390))])))) (.branch 389 (.branch 388 (.leaf (386, 0, 2, .inl ((-2147483648), 2147483647), [])) (.leaf (389, 0, 3, .inl (0, 12), []))) (.branch 390 (.leaf (390, 0, 36, .inl (0, 11), [])) (.leaf (391, 0, 16, .inl ((-2147483648), 2147483647), []))))), zw_89, [], zp_89.map (fun p => p.1))
def zu_89 : List zCu := [(([(90, 8, [(1, .inl (0, [(2, 1)])), (0, .inr (.inl 379))], [])], .branch 376 (.branch 372 (.branch 370 (.leaf (367, 102, 11, .inr 3, [((1, []), .inr (.inl 370)), ((5, []), .inr (.inr (.inr (.inl (0, 4))))), ((8, []), .inr (.inl 376))])) (.branch 371 (.leaf (371, 104, 7, .inr 3, [((0, []), .inr (.inl 371)), ((4, []), .inr (.inl 372)), ((5, []), .inr (.inl 373)), ((6, []), .inr (.inl 374))])) (.leaf (372, 0, 6, .inl ((-2147483648), 2147483647), [((3, []), .inl (0, [(0, 1)])), ((4, []), .inl (0, [(1, 1)]))])))) (.branch 373 (.leaf (373, 0, 5, .inl (0, 540), [])) (.branch 374 (.leaf (374, 0, 540, .inr 1, [])) (.leaf (375, 0, 30, .inl ((-2147483648), 2147483647), []))))) (.branch 385 (.branch 379 (.leaf (377, 0, 12, .inl ((-2147483648), 2147483647), [])) (.branch 383 (.leaf (380, 109, 9, .inr 3, [((0, []), .inr (.inl 366)), ((2, []), .inr (.inl 383))])) (.leaf (384, 107, 14, .inr 3, [((2, []), zaI), ((8, []), .inr (.inl 385)), ((11, []), .inr (.inl 388)), ((12, []), .inr (.inl 389)), ((13, []), .inr (.inl 390)), ((5, []), .inr (.inr (.inr (.inl (0, 1))))), ((4, []), .inl (0, [(0, 1)])), ((1, []), .inl (0, [(1, 1)]))])))) (.branch 389 (.branch 388 (.leaf (386, 0, 2, .inl ((-2147483648), 2147483647), [])) (.leaf (389, 0, 3, .inl (0, 12), []))) (.branch 390 (.leaf (390, 0, 36, .inl (0, 11), [])) (.leaf (391, 0, 16, .inl ((-2147483648), 2147483647), []))))), [((-2147483648), 2147483647), ((-2147483648), 2147483647), (0, 4)], [], []), [.inr (.inr (371, (3, []))), .inr (.inr (371, (4, []))), .inl (0, 1)], (4, [(2, (-1))]))]
def zs_89 : List zCt := [zc_81, zc_71, zc_72]
theorem za_89 : zwin zw_89 zc_89.2.2.2.2.2.1 = true := by decide +kernel
theorem z0_89 : zst0 mi_P zw_89 [] [] (fun d y as t en => zcal zw_89 d y as t en zs_89) zc_89 zp_89 zu_89 740 = true := by decide +kernel
theorem zk_89 : zu_89.all (zck mi_P zc_89.2.1 zw_89 false [] [] (fun d y as t en => zcal zw_89 d y as t en zs_89) zc_89.2.2.2.1.length zc_89.2.2.2.1 zc_89.2.2.2.2.2.1 zp_89 zu_89 740) = true := by decide +kernel
theorem zt_89 {S : Nat × (Nat → Int32)} : zCtr mi_P S zTt zc_89 := by
  have hc : ∀ c ∈ zs_89, zCtr mi_P S zTt c := by
    intro c hc
    simp only [zs_89, List.mem_cons, List.not_mem_nil, or_false] at hc
    rcases hc with rfl | rfl | rfl
    · exact zt_81
    · exact zt_71
    · exact zt_72
  exact zCtr_of (Om := zTt) (ct := zc_89) (ps := zp_89) (fun _ _ _ _ => trivial) rfl hc za_89 z0_89 zk_89
/-- L$Course.passSecond()V -/
def zw_90 : zW := .branch 386 (.branch 383 (.branch 374 (.leaf (372, [0])) (.branch 379 (.leaf (375, [0])) (.leaf (380, [3, 4, 5, 6])))) (.branch 384 (.leaf (384, [0, 2, 3, 6])) (.branch 385 (.leaf (385, [0])) (.leaf (386, [0]))))) (.branch 389 (.branch 387 (.leaf (387, [0])) (.branch 388 (.leaf (388, [0])) (.leaf (389, [0])))) (.branch 391 (.branch 390 (.leaf (390, [0])) (.leaf (391, [0]))) (.branch 392 (.leaf (392, [0])) (.leaf (393, [0])))))
def zp_90 : List (zPo × List (Nat ⊕ (Nat × zL))) := [(([], [], [(371, []), (374, []), (379, [((3, []), zaI), ((4, []), zaI), ((5, []), zaI), ((6, []), zaI)]), (383, [((0, []), zaI), ((2, []), zaI), ((3, []), zaI), ((6, []), .inr (.inr (.inr (.inl (0, 20)))))]), (384, []), (385, []), (386, []), (387, []), (388, []), (389, []), (390, []), (391, []), (392, [])], none), [])]
def zc_90 : zCt := (78, 4, [.inr (.inl 379)], [], [], .branch 381 (.branch 374 (.branch 371 (.branch 370 (.leaf (367, 102, 11, .inr 3, [((1, []), .inr (.inl 370)), ((5, []), .inr (.inr (.inr (.inl (0, 4))))), ((7, []), .inr (.inr (.inr (.inl (0, 12))))), ((8, []), .inr (.inl 376)), ((9, []), .inr (.inl 377)), ((10, []), .inr (.inl 378))])) (.leaf (371, 104, 7, .inr 3, [((0, []), .inr (.inl 371)), ((4, []), .inr (.inl 372)), ((5, []), .inr (.inl 373)), ((6, []), .inr (.inl 374))]))) (.branch 372 (.leaf (372, 0, 6, .inl ((-2147483648), 2147483647), [])) (.branch 373 (.leaf (373, 0, 5, .inl (0, 540), [])) (.leaf (374, 0, 540, .inr 1, []))))) (.branch 378 (.branch 376 (.leaf (375, 0, 30, .inl ((-2147483648), 2147483647), [])) (.branch 377 (.leaf (377, 0, 12, .inl ((-2147483648), 2147483647), [])) (.leaf (378, 0, 12, .inl ((-2147483648), 2147483647), [])))) (.branch 379 (.leaf (379, 0, 12, .inl ((-2147483648), 2147483647), [])) (.branch 380 (.leaf (380, 109, 9, .inr 3, [((0, []), .inr (.inl 366)), ((1, []), .inr (.inl 380)), ((2, []), .inr (.inl 383)), ((3, []), zaI), ((4, []), zaI), ((5, []), zaI), ((6, []), zaI), ((7, []), .inr (.inl 391)), ((8, []), .inr (.inl 392))])) (.leaf (381, 103, 5, .inr 3, [((0, []), zaI), ((1, []), .inr (.inr (.inr (.inl (0, 1))))), ((2, []), zaI), ((3, []), .inr (.inl 381)), ((4, []), .inr (.inl 382))])))))) (.branch 387 (.branch 384 (.branch 382 (.leaf (382, 0, 2, .inl ((-2147483648), 2147483647), [])) (.branch 383 (.leaf (383, 0, 12, .inl ((-2147483648), 2147483647), [])) (.leaf (384, 107, 14, .inr 3, [((0, []), zaI), ((1, []), zaI), ((2, []), zaI), ((3, []), zaI), ((4, []), zaI), ((5, []), .inr (.inr (.inr (.inl (0, 1))))), ((6, []), .inr (.inr (.inr (.inl (0, 20))))), ((7, []), .inr (.inl 384)), ((8, []), .inr (.inl 385)), ((9, []), .inr (.inl 386)), ((10, []), .inr (.inl 387)), ((11, []), .inr (.inl 388)), ((12, []), .inr (.inl 389)), ((13, []), .inr (.inl 390))])))) (.branch 385 (.leaf (385, 0, 20, .inl ((-2147483648), 2147483647), [])) (.branch 386 (.leaf (386, 0, 2, .inl ((-2147483648), 2147483647), [])) (.leaf (387, 0, 12, .inl ((-2147483648), 2147483647), []))))) (.branch 390 (.branch 388 (.leaf (388, 0, 12, .inl ((-2147483648), 2147483647), [])) (.branch 389 (.leaf (389, 0, 3, .inl (0, 12), [])) (.leaf (390, 0, 36, .inl (0, 11), [])))) (.branch 391 (.leaf (391, 0, 16, .inl ((-2147483648), 2147483647), [])) (.branch 392 (.leaf (392, 0, 2, .inl ((-2147483648), 2147483647), [])) (.leaf (393, 0, 3, .inl ((-2147483648), 2147483647), [])))))), zw_90, [], zp_90.map (fun p => p.1))
def zu_90 : List zCu := []
def zs_90 : List zCt := [zc_77, zc_84, zc_85, zc_86, zc_87, zc_88, zc_89]
theorem za_90 : zwin zw_90 zc_90.2.2.2.2.2.1 = true := by decide +kernel
theorem z0_90 : zst0 mi_P zw_90 [] [] (fun d y as t en => zcal zw_90 d y as t en zs_90) zc_90 zp_90 zu_90 314 = true := by decide +kernel
theorem zk_90 : zu_90.all (zck mi_P zc_90.2.1 zw_90 false [] [] (fun d y as t en => zcal zw_90 d y as t en zs_90) zc_90.2.2.2.1.length zc_90.2.2.2.1 zc_90.2.2.2.2.2.1 zp_90 zu_90 314) = true := by decide +kernel
theorem zt_90 {S : Nat × (Nat → Int32)} : zCtr mi_P S zTt zc_90 := by
  have hc : ∀ c ∈ zs_90, zCtr mi_P S zTt c := by
    intro c hc
    simp only [zs_90, List.mem_cons, List.not_mem_nil, or_false] at hc
    rcases hc with rfl | rfl | rfl | rfl | rfl | rfl | rfl
    · exact zt_77
    · exact zt_84
    · exact zt_85
    · exact zt_86
    · exact zt_87
    · exact zt_88
    · exact zt_89
  exact zCtr_of (Om := zTt) (ct := zc_90) (ps := zp_90) (fun _ _ _ _ => trivial) rfl hc za_90 z0_90 zk_90
