/-- java/lang/String.length()I -/
def zw_0 : zW := .leaf (0, [])
def zp_0 : List (zPo × List (Nat ⊕ (Nat × zL))) := [(([], [], [], some (.inr (.inr (.inr (.inl (128, 128)))))), [])]
def zc_0 : zCt := (278, 1, [.inr (.inl 1)], [], [], .leaf (0, 0, 0, .inr 3, []), zw_0, [], zp_0.map (fun p => p.1))
def zu_0 : List zCu := []
def zs_0 : List zCt := []
theorem za_0 : zwin zw_0 zc_0.2.2.2.2.2.1 = true := by decide +kernel
theorem z0_0 : zst0 mi_P zw_0 [] [] (fun d y as t en => zcal zw_0 d y as t en zs_0) zc_0 zp_0 zu_0 224 = true := by decide +kernel
theorem zk_0 : zu_0.all (zck mi_P zc_0.2.1 zw_0 false [] [] (fun d y as t en => zcal zw_0 d y as t en zs_0) zc_0.2.2.2.1.length zc_0.2.2.2.1 zc_0.2.2.2.2.2.1 zp_0 zu_0 224) = true := by decide +kernel
theorem zt_0 {S : Nat × (Nat → Int32)} : zCtr mi_P S zTt zc_0 := by
  have hc : ∀ c ∈ zs_0, zCtr mi_P S zTt c := fun c hc => by cases hc
  exact zCtr_of (Om := zTt) (ct := zc_0) (ps := zp_0) (fun _ _ _ _ => trivial) rfl hc za_0 z0_0 zk_0
/-- java/lang/String.charAt(I)C -/
def zw_1 : zW := .leaf (0, [])
def zp_1 : List (zPo × List (Nat ⊕ (Nat × zL))) := [(([], [], [], some (.inr (.inr (.inr (.inl (0, 255)))))), [])]
def zc_1 : zCt := (280, 4, [.inr (.inl 1), .inr (.inr (.inr (.inl (0, 127))))], [], [], .leaf (0, 0, 0, .inr 3, []), zw_1, [], zp_1.map (fun p => p.1))
def zu_1 : List zCu := []
def zs_1 : List zCt := [zc_283000]
theorem za_1 : zwin zw_1 zc_1.2.2.2.2.2.1 = true := by decide +kernel
theorem z0_1 : zst0 mi_P zw_1 [] [] (fun d y as t en => zcal zw_1 d y as t en zs_1) zc_1 zp_1 zu_1 256 = true := by decide +kernel
theorem zk_1 : zu_1.all (zck mi_P zc_1.2.1 zw_1 false [] [] (fun d y as t en => zcal zw_1 d y as t en zs_1) zc_1.2.2.2.1.length zc_1.2.2.2.1 zc_1.2.2.2.2.2.1 zp_1 zu_1 256) = true := by decide +kernel
theorem zt_1 {S : Nat × (Nat → Int32)} : zCtr mi_P S zTt zc_1 := by
  have hc : ∀ c ∈ zs_1, zCtr mi_P S zTt c := by
    intro c hc
    simp only [zs_1, List.mem_cons, List.not_mem_nil, or_false] at hc
    rcases hc with rfl
    · exact zt_283000
  exact zCtr_of (Om := zTt) (ct := zc_1) (ps := zp_1) (fun _ _ _ _ => trivial) rfl hc za_1 z0_1 zk_1
/-- java/lang/String.indexOf(I)I -/
def zw_2 : zW := .leaf (0, [])
def zp_2 : List (zPo × List (Nat ⊕ (Nat × zL))) := [(([], [], [], some (.inr (.inr (.inr (.inl ((-1), 10)))))), [])]
def zc_2 : zCt := (285, 3, [.inr (.inl 2), zaI], [], [], .leaf (0, 0, 0, .inr 3, []), zw_2, [], zp_2.map (fun p => p.1))
def zu_2 : List zCu := [(([(289, 5, [(5, .inl (0, [(2, 1)])), (4, .inl (0, [(1, 1)])), (0, .inr (.inl 4)), (1, .inl (0, [(0, 1)])), (2, .inl (0, [])), (3, .inl (11, []))], []), (287, 24, [(3, .inl (11, [])), (2, .inl (0, [])), (0, .inr (.inl 4)), (1, .inl (0, [(0, 1)]))], []), (286, 10, [(0, .inr (.inl 2)), (1, .inl (0, [(0, 1)])), (2, .inl (0, []))], []), (285, 4, [(0, .inr (.inl 2)), (1, .inl (0, [(0, 1)]))], [])], .leaf (0, 0, 0, .inr 3, []), [(0, 255), ((-128), 127), (0, 11)], [], []), [.inl (0, 1), .inl (0, 4), .inl (0, 5)], (11, [(2, (-1))]))]
def zs_2 : List zCt := []
theorem za_2 : zwin zw_2 zc_2.2.2.2.2.2.1 = true := by decide +kernel
theorem z0_2 : zst0 mi_P zw_2 [] [] (fun d y as t en => zcal zw_2 d y as t en zs_2) zc_2 zp_2 zu_2 364 = true := by decide +kernel
theorem zk_2 : zu_2.all (zck mi_P zc_2.2.1 zw_2 false [] [] (fun d y as t en => zcal zw_2 d y as t en zs_2) zc_2.2.2.2.1.length zc_2.2.2.2.1 zc_2.2.2.2.2.2.1 zp_2 zu_2 364) = true := by decide +kernel
theorem zt_2 {S : Nat × (Nat → Int32)} : zCtr mi_P S zTt zc_2 := by
  have hc : ∀ c ∈ zs_2, zCtr mi_P S zTt c := fun c hc => by cases hc
  exact zCtr_of (Om := zTt) (ct := zc_2) (ps := zp_2) (fun _ _ _ _ => trivial) rfl hc za_2 z0_2 zk_2
/-- L$Tokens.wordKind()I -/
def zw_3 : zW := .leaf (0, [])
def zp_3 : List (zPo × List (Nat ⊕ (Nat × zL))) := [(([], [], [], some (zaI)), [])]
def zc_3 : zCt := (25, 5, [.inr (.inl 22)], [], [], .branch 22 (.leaf (8, 1, 1600, .inl ((-128), 127), [])) (.leaf (23, 105, 6, .inr 3, [((1, []), .inr (.inr (.inr (.inl (0, 1600))))), ((2, []), .inr (.inr (.inr (.inl (0, 1600))))), ((4, []), .inr (.inl 7))])), zw_3, [], zp_3.map (fun p => p.1))
def zu_3 : List zCu := [(([(25, 8, [(4, .inl (0, [(0, 1)])), (3, .inl (0, [(2, 1)])), (2, .inl (0, [(1, 1)])), (1, .inl (0, [(3, 1)])), (0, .inr (.inl 22))], [])], .branch 22 (.leaf (8, 1, 1600, .inl ((-128), 127), [])) (.leaf (23, 105, 6, .inr 3, [((1, []), .inr (.inr (.inr (.inl (0, 1600))))), ((2, []), .inr (.inr (.inr (.inl (0, 1600))))), ((4, []), .inr (.inl 7))])), [(0, 128), (0, 128), (0, 1), ((-2147483648), 2147483647)], [(0, [(0, (-1)), (1, 1)])], []), [.inl (0, 4), .inl (0, 2), .inl (0, 3), .inl (0, 1)], (128, [(0, (-1))]))]
def zs_3 : List zCt := [zc_0, zc_1]
theorem za_3 : zwin zw_3 zc_3.2.2.2.2.2.1 = true := by decide +kernel
theorem z0_3 : zst0 mi_P zw_3 [] [] (fun d y as t en => zcal zw_3 d y as t en zs_3) zc_3 zp_3 zu_3 358 = true := by decide +kernel
theorem zk_3 : zu_3.all (zck mi_P zc_3.2.1 zw_3 false [] [] (fun d y as t en => zcal zw_3 d y as t en zs_3) zc_3.2.2.2.1.length zc_3.2.2.2.1 zc_3.2.2.2.2.2.1 zp_3 zu_3 358) = true := by decide +kernel
theorem zt_3 {S : Nat × (Nat → Int32)} : zCtr mi_P S zTt zc_3 := by
  have hc : ∀ c ∈ zs_3, zCtr mi_P S zTt c := by
    intro c hc
    simp only [zs_3, List.mem_cons, List.not_mem_nil, or_false] at hc
    rcases hc with rfl | rfl
    · exact zt_0
    · exact zt_1
  exact zCtr_of (Om := zTt) (ct := zc_3) (ps := zp_3) (fun _ _ _ _ => trivial) rfl hc za_3 z0_3 zk_3
/-- L$Tokens.readNumber()V -/
def zw_4 : zW := .leaf (23, [0, 2, 3])
def zp_4 : List (zPo × List (Nat ⊕ (Nat × zL))) := [(([], [], [(22, [((0, []), zaI), ((2, []), .inr (.inr (.inr (.inl (0, 1600))))), ((3, []), zaI)])], none), [])]
def zc_4 : zCt := (27, 1, [.inr (.inl 22)], [], [], .branch 22 (.leaf (8, 1, 1600, .inl ((-128), 127), [])) (.leaf (23, 105, 6, .inr 3, [((0, []), zaI), ((1, []), .inr (.inr (.inr (.inl (0, 1600))))), ((2, []), .inr (.inr (.inr (.inl (0, 1600))))), ((3, []), zaI), ((4, []), .inr (.inl 7)), ((5, []), .inr (.inr (.inr (.inl (0, 1600)))))])), zw_4, [], zp_4.map (fun p => p.1))
def zu_4 : List zCu := [(([(27, 3, [(0, .inr (.inl 22))], [])], .branch 22 (.leaf (8, 1, 1600, .inl ((-128), 127), [])) (.leaf (23, 105, 6, .inr 3, [((0, []), zaI), ((1, []), .inr (.inr (.inr (.inl (0, 1600))))), ((2, []), .inl (0, [(0, 1)])), ((4, []), .inr (.inl 7)), ((5, []), .inr (.inr (.inr (.inl (0, 1600))))), ((3, []), zaI)])), [(0, 1600)], [], []), [.inr (.inr (22, (2, [])))], (1600, [(0, (-1))]))]
def zs_4 : List zCt := []
theorem za_4 : zwin zw_4 zc_4.2.2.2.2.2.1 = true := by decide +kernel
theorem z0_4 : zst0 mi_P zw_4 [] [] (fun d y as t en => zcal zw_4 d y as t en zs_4) zc_4 zp_4 zu_4 610 = true := by decide +kernel
theorem zk_4 : zu_4.all (zck mi_P zc_4.2.1 zw_4 false [] [] (fun d y as t en => zcal zw_4 d y as t en zs_4) zc_4.2.2.2.1.length zc_4.2.2.2.1 zc_4.2.2.2.2.2.1 zp_4 zu_4 610) = true := by decide +kernel
theorem zt_4 {S : Nat × (Nat → Int32)} : zCtr mi_P S zTt zc_4 := by
  have hc : ∀ c ∈ zs_4, zCtr mi_P S zTt c := fun c hc => by cases hc
  exact zCtr_of (Om := zTt) (ct := zc_4) (ps := zp_4) (fun _ _ _ _ => trivial) rfl hc za_4 z0_4 zk_4
/-- L$Tokens.advance()V -/
def zw_5 : zW := .leaf (23, [0, 1, 2, 3])
def zp_5 : List (zPo × List (Nat ⊕ (Nat × zL))) := [(([], [], [(22, [((0, []), zaI), ((1, []), .inr (.inr (.inr (.inl (0, 1600))))), ((2, []), .inr (.inr (.inr (.inl (0, 1600))))), ((3, []), zaI)])], none), [])]
def zc_5 : zCt := (23, 6, [.inr (.inl 22)], [], [], .branch 22 (.leaf (8, 1, 1600, .inl ((-128), 127), [])) (.leaf (23, 105, 6, .inr 3, [((0, []), zaI), ((1, []), .inr (.inr (.inr (.inl (0, 1600))))), ((2, []), .inr (.inr (.inr (.inl (0, 1600))))), ((3, []), zaI), ((4, []), .inr (.inl 7)), ((5, []), .inr (.inr (.inr (.inl (0, 1600)))))])), zw_5, [], zp_5.map (fun p => p.1))
def zu_5 : List zCu := [(([(23, 4, [(0, .inr (.inl 22))], [])], .branch 22 (.leaf (8, 1, 1600, .inl ((-128), 127), [])) (.leaf (23, 105, 6, .inr 3, [((0, []), zaI), ((3, []), zaI), ((4, []), .inr (.inl 7)), ((5, []), .inr (.inr (.inr (.inl (0, 1600))))), ((2, []), .inl (0, [(0, 1)])), ((1, []), .inl (0, [(1, 1)]))])), [(0, 1600), (0, 1600)], [], []), [.inr (.inr (22, (2, []))), .inr (.inr (22, (1, [])))], (3201, [(1, (-1))])), (([(23, 34, [(0, .inr (.inl 22))], [])], .branch 22 (.leaf (8, 1, 1600, .inl ((-128), 127), [])) (.leaf (23, 105, 6, .inr 3, [((0, []), zaI), ((3, []), zaI), ((4, []), .inr (.inl 7)), ((1, []), .inl (0, [(0, 1)])), ((5, []), .inr (.inr (.inr (.inl (0, 1600))))), ((2, []), .inl (0, [(1, 1)]))])), [(0, 1600), (0, 1600)], [], []), [.inr (.inr (22, (1, []))), .inr (.inr (22, (2, [])))], (1600, [(1, (-1))]))]
def zs_5 : List zCt := [zc_2, zc_4, zc_3]
theorem za_5 : zwin zw_5 zc_5.2.2.2.2.2.1 = true := by decide +kernel
theorem z0_5 : zst0 mi_P zw_5 [] [] (fun d y as t en => zcal zw_5 d y as t en zs_5) zc_5 zp_5 zu_5 994 = true := by decide +kernel
theorem zk_5 : zu_5.all (zck mi_P zc_5.2.1 zw_5 false [] [] (fun d y as t en => zcal zw_5 d y as t en zs_5) zc_5.2.2.2.1.length zc_5.2.2.2.1 zc_5.2.2.2.2.2.1 zp_5 zu_5 994) = true := by decide +kernel
theorem zt_5 {S : Nat × (Nat → Int32)} : zCtr mi_P S zTt zc_5 := by
  have hc : ∀ c ∈ zs_5, zCtr mi_P S zTt c := by
    intro c hc
    simp only [zs_5, List.mem_cons, List.not_mem_nil, or_false] at hc
    rcases hc with rfl | rfl | rfl
    · exact zt_2
    · exact zt_4
    · exact zt_3
  exact zCtr_of (Om := zTt) (ct := zc_5) (ps := zp_5) (fun _ _ _ _ => trivial) rfl hc za_5 z0_5 zk_5
/-- L$Tokens.isSameAsNow(II)Z -/
def zw_6 : zW := .leaf (0, [])
def zp_6 : List (zPo × List (Nat ⊕ (Nat × zL))) := [(([], [], [], some (.inr (.inr (.inr (.inl (0, 1)))))), [])]
def zc_6 : zCt := (37, 0, [.inr (.inl 22), .inr (.inr (.inr (.inl (0, 1600)))), .inr (.inr (.inr (.inl (0, 1600))))], [], [], .branch 22 (.leaf (8, 1, 1600, .inl ((-128), 127), [])) (.leaf (23, 105, 6, .inr 3, [((1, []), .inr (.inr (.inr (.inl (0, 1600))))), ((2, []), .inr (.inr (.inr (.inl (0, 1600))))), ((4, []), .inr (.inl 7)), ((5, []), .inr (.inr (.inr (.inl (0, 1600)))))])), zw_6, [], zp_6.map (fun p => p.1))
def zu_6 : List zCu := [(([(37, 19, [(3, .inl (0, [(5, 1)])), (0, .inr (.inl 22)), (1, .inl (0, [(0, 1)])), (2, .inl (0, [(1, 1)]))], [])], .branch 22 (.leaf (8, 1, 1600, .inl ((-128), 127), [])) (.leaf (23, 105, 6, .inr 3, [((4, []), .inr (.inl 7)), ((5, []), .inl (0, [(2, 1)])), ((2, []), .inl (0, [(3, 1)])), ((1, []), .inl (0, [(4, 1)]))])), [(0, 1600), (0, 1600), (0, 1600), (0, 1600), (0, 1600), (0, 1600)], [(0, [(1, 1), (2, (-1))]), (0, [(0, (-1)), (1, 1), (3, (-1)), (4, 1)]), (0, [(0, 1), (1, (-1)), (3, 1), (4, (-1))]), (0, [(0, 1), (5, (-1))])], []), [.inl (0, 1), .inl (0, 2), .inr (.inr (22, (5, []))), .inr (.inr (22, (2, []))), .inr (.inr (22, (1, []))), .inl (0, 3)], (1600, [(5, (-1))]))]
def zs_6 : List zCt := []
theorem za_6 : zwin zw_6 zc_6.2.2.2.2.2.1 = true := by decide +kernel
theorem z0_6 : zst0 mi_P zw_6 [] [] (fun d y as t en => zcal zw_6 d y as t en zs_6) zc_6 zp_6 zu_6 242 = true := by decide +kernel
theorem zk_6 : zu_6.all (zck mi_P zc_6.2.1 zw_6 false [] [] (fun d y as t en => zcal zw_6 d y as t en zs_6) zc_6.2.2.2.1.length zc_6.2.2.2.1 zc_6.2.2.2.2.2.1 zp_6 zu_6 242) = true := by decide +kernel
theorem zt_6 {S : Nat × (Nat → Int32)} : zCtr mi_P S zTt zc_6 := by
  have hc : ∀ c ∈ zs_6, zCtr mi_P S zTt c := fun c hc => by cases hc
  exact zCtr_of (Om := zTt) (ct := zc_6) (ps := zp_6) (fun _ _ _ _ => trivial) rfl hc za_6 z0_6 zk_6
/-- L$Reader.fail(I)V -/
def zw_7 : zW := .branch 22 (.leaf (9, [1, 2])) (.leaf (23, [0, 2]))
def zp_7 : List (zPo × List (Nat ⊕ (Nat × zL))) := [(([], [], [(8, [((1, []), zaI), ((2, []), zaI)]), (22, [((0, []), zaI), ((2, []), .inr (.inr (.inr (.inl (0, 1600)))))])], none), [])]
def zc_7 : zCt := (31, 1, [.inr (.inl 8), zaI], [], [], .branch 22 (.leaf (9, 101, 8, .inr 3, [((1, []), zaI), ((2, []), zaI), ((3, []), .inr (.inl 22))])) (.leaf (23, 105, 6, .inr 3, [((0, []), zaI), ((1, []), .inr (.inr (.inr (.inl (0, 1600))))), ((2, []), .inr (.inr (.inr (.inl (0, 1600))))), ((5, []), .inr (.inr (.inr (.inl (0, 1600)))))])), zw_7, [], zp_7.map (fun p => p.1))
def zu_7 : List zCu := []
def zs_7 : List zCt := []
theorem za_7 : zwin zw_7 zc_7.2.2.2.2.2.1 = true := by decide +kernel
theorem z0_7 : zst0 mi_P zw_7 [] [] (fun d y as t en => zcal zw_7 d y as t en zs_7) zc_7 zp_7 zu_7 266 = true := by decide +kernel
theorem zk_7 : zu_7.all (zck mi_P zc_7.2.1 zw_7 false [] [] (fun d y as t en => zcal zw_7 d y as t en zs_7) zc_7.2.2.2.1.length zc_7.2.2.2.1 zc_7.2.2.2.2.2.1 zp_7 zu_7 266) = true := by decide +kernel
theorem zt_7 {S : Nat × (Nat → Int32)} : zCtr mi_P S zTt zc_7 := by
  have hc : ∀ c ∈ zs_7, zCtr mi_P S zTt c := fun c hc => by cases hc
  exact zCtr_of (Om := zTt) (ct := zc_7) (ps := zp_7) (fun _ _ _ _ => trivial) rfl hc za_7 z0_7 zk_7
/-- L$Reader.expect(I)V -/
def zw_8 : zW := .branch 22 (.leaf (9, [1, 2])) (.leaf (23, [0, 1, 2, 3]))
def zp_8 : List (zPo × List (Nat ⊕ (Nat × zL))) := [(([], [], [(8, [((1, []), zaI), ((2, []), zaI)]), (22, [((0, []), zaI), ((1, []), .inr (.inr (.inr (.inl (0, 1600))))), ((2, []), .inr (.inr (.inr (.inl (0, 1600))))), ((3, []), zaI)])], none), [])]
def zc_8 : zCt := (38, 7, [.inr (.inl 8), zaI], [], [], .branch 8 (.leaf (8, 1, 1600, .inl ((-128), 127), [])) (.branch 22 (.leaf (9, 101, 8, .inr 3, [((1, []), zaI), ((2, []), zaI), ((3, []), .inr (.inl 22))])) (.leaf (23, 105, 6, .inr 3, [((0, []), zaI), ((1, []), .inr (.inr (.inr (.inl (0, 1600))))), ((2, []), .inr (.inr (.inr (.inl (0, 1600))))), ((3, []), zaI), ((4, []), .inr (.inl 7)), ((5, []), .inr (.inr (.inr (.inl (0, 1600)))))]))), zw_8, [], zp_8.map (fun p => p.1))
def zu_8 : List zCu := []
def zs_8 : List zCt := [zc_7, zc_5]
theorem za_8 : zwin zw_8 zc_8.2.2.2.2.2.1 = true := by decide +kernel
theorem z0_8 : zst0 mi_P zw_8 [] [] (fun d y as t en => zcal zw_8 d y as t en zs_8) zc_8 zp_8 zu_8 248 = true := by decide +kernel
theorem zk_8 : zu_8.all (zck mi_P zc_8.2.1 zw_8 false [] [] (fun d y as t en => zcal zw_8 d y as t en zs_8) zc_8.2.2.2.1.length zc_8.2.2.2.1 zc_8.2.2.2.2.2.1 zp_8 zu_8 248) = true := by decide +kernel
theorem zt_8 {S : Nat × (Nat → Int32)} : zCtr mi_P S zTt zc_8 := by
  have hc : ∀ c ∈ zs_8, zCtr mi_P S zTt c := by
    intro c hc
    simp only [zs_8, List.mem_cons, List.not_mem_nil, or_false] at hc
    rcases hc with rfl | rfl
    · exact zt_7
    · exact zt_5
  exact zCtr_of (Om := zTt) (ct := zc_8) (ps := zp_8) (fun _ _ _ _ => trivial) rfl hc za_8 z0_8 zk_8
/-- L$Reader.numberIn(II)I -/
def zw_9 : zW := .branch 22 (.leaf (9, [1, 2])) (.leaf (23, [0, 1, 2, 3]))
def zp_9 : List (zPo × List (Nat ⊕ (Nat × zL))) := [(([], [], [(8, [((1, []), zaI), ((2, []), zaI)]), (22, [((0, []), zaI), ((1, []), .inr (.inr (.inr (.inl (0, 1600))))), ((2, []), .inr (.inr (.inr (.inl (0, 1600))))), ((3, []), zaI)])], some (zaI)), [])]
def zc_9 : zCt := (33, 7, [.inr (.inl 8), zaI, zaI], [], [], .branch 8 (.leaf (8, 1, 1600, .inl ((-128), 127), [])) (.branch 22 (.leaf (9, 101, 8, .inr 3, [((1, []), zaI), ((2, []), zaI), ((3, []), .inr (.inl 22))])) (.leaf (23, 105, 6, .inr 3, [((0, []), zaI), ((1, []), .inr (.inr (.inr (.inl (0, 1600))))), ((2, []), .inr (.inr (.inr (.inl (0, 1600))))), ((3, []), zaI), ((4, []), .inr (.inl 7)), ((5, []), .inr (.inr (.inr (.inl (0, 1600)))))]))), zw_9, [], zp_9.map (fun p => p.1))
def zu_9 : List zCu := []
def zs_9 : List zCt := [zc_7, zc_5]
theorem za_9 : zwin zw_9 zc_9.2.2.2.2.2.1 = true := by decide +kernel
theorem z0_9 : zst0 mi_P zw_9 [] [] (fun d y as t en => zcal zw_9 d y as t en zs_9) zc_9 zp_9 zu_9 288 = true := by decide +kernel
theorem zk_9 : zu_9.all (zck mi_P zc_9.2.1 zw_9 false [] [] (fun d y as t en => zcal zw_9 d y as t en zs_9) zc_9.2.2.2.1.length zc_9.2.2.2.1 zc_9.2.2.2.2.2.1 zp_9 zu_9 288) = true := by decide +kernel
theorem zt_9 {S : Nat × (Nat → Int32)} : zCtr mi_P S zTt zc_9 := by
  have hc : ∀ c ∈ zs_9, zCtr mi_P S zTt c := by
    intro c hc
    simp only [zs_9, List.mem_cons, List.not_mem_nil, or_false] at hc
    rcases hc with rfl | rfl
    · exact zt_7
    · exact zt_5
  exact zCtr_of (Om := zTt) (ct := zc_9) (ps := zp_9) (fun _ _ _ _ => trivial) rfl hc za_9 z0_9 zk_9
/-- L$Reader.readUnit(I)V -/
def zw_10 : zW := .branch 16 (.branch 13 (.leaf (9, [1, 2, 5])) (.leaf (14, [1, 3]))) (.branch 22 (.leaf (17, [0])) (.leaf (23, [0, 1, 2, 3])))
def zp_10 : List (zPo × List (Nat ⊕ (Nat × zL))) := [(([], [], [(8, [((1, []), zaI), ((2, []), zaI), ((5, []), .inr (.inr (.inr (.inl (0, 30)))))]), (13, [((1, []), zaI), ((3, []), .inr (.inr (.inr (.inl (0, 540)))))]), (16, []), (22, [((0, []), zaI), ((1, []), .inr (.inr (.inr (.inl (0, 1600))))), ((2, []), .inr (.inr (.inr (.inl (0, 1600))))), ((3, []), zaI)])], none), [])]
def zc_10 : zCt := (45, 7, [.inr (.inl 8), .inl (7, [])], [], [], .branch 13 (.branch 8 (.leaf (8, 1, 1600, .inl ((-128), 127), [])) (.branch 9 (.leaf (9, 101, 8, .inr 3, [((0, []), .inr (.inl 9)), ((1, []), zaI), ((2, []), zaI), ((3, []), .inr (.inl 22)), ((5, []), .inr (.inr (.inr (.inl (0, 30)))))])) (.leaf (10, 102, 11, .inr 3, [((1, []), .inr (.inl 13))])))) (.branch 16 (.leaf (14, 104, 7, .inr 3, [((1, []), zaI), ((3, []), .inr (.inr (.inr (.inl (0, 540))))), ((5, []), .inr (.inl 16))])) (.branch 22 (.leaf (17, 0, 540, .inr 1, [])) (.leaf (23, 105, 6, .inr 3, [((0, []), zaI), ((1, []), .inr (.inr (.inr (.inl (0, 1600))))), ((2, []), .inr (.inr (.inr (.inl (0, 1600))))), ((3, []), zaI), ((4, []), .inr (.inl 7)), ((5, []), .inr (.inr (.inr (.inl (0, 1600)))))])))), zw_10, [], zp_10.map (fun p => p.1))
def zu_10 : List zCu := []
def zs_10 : List zCt := [zc_7, zc_5]
theorem za_10 : zwin zw_10 zc_10.2.2.2.2.2.1 = true := by decide +kernel
theorem z0_10 : zst0 mi_P zw_10 [] [] (fun d y as t en => zcal zw_10 d y as t en zs_10) zc_10 zp_10 zu_10 764 = true := by decide +kernel
theorem zk_10 : zu_10.all (zck mi_P zc_10.2.1 zw_10 false [] [] (fun d y as t en => zcal zw_10 d y as t en zs_10) zc_10.2.2.2.1.length zc_10.2.2.2.1 zc_10.2.2.2.2.2.1 zp_10 zu_10 764) = true := by decide +kernel
theorem zt_10 {S : Nat × (Nat → Int32)} : zCtr mi_P S zTt zc_10 := by
  have hc : ∀ c ∈ zs_10, zCtr mi_P S zTt c := by
    intro c hc
    simp only [zs_10, List.mem_cons, List.not_mem_nil, or_false] at hc
    rcases hc with rfl | rfl
    · exact zt_7
    · exact zt_5
  exact zCtr_of (Om := zTt) (ct := zc_10) (ps := zp_10) (fun _ _ _ _ => trivial) rfl hc za_10 z0_10 zk_10
/-- L$Reader.readTerm(I)V -/
def zw_11 : zW := .branch 16 (.branch 13 (.leaf (9, [1, 2, 5])) (.leaf (14, [1, 3]))) (.branch 22 (.leaf (17, [0])) (.leaf (23, [0, 1, 2, 3])))
def zp_11 : List (zPo × List (Nat ⊕ (Nat × zL))) := [(([], [], [(8, [((1, []), zaI), ((2, []), zaI), ((5, []), .inr (.inr (.inr (.inl (0, 30)))))]), (13, [((1, []), zaI), ((3, []), .inr (.inr (.inr (.inl (0, 540)))))]), (16, []), (22, [((0, []), zaI), ((1, []), .inr (.inr (.inr (.inl (0, 1600))))), ((2, []), .inr (.inr (.inr (.inl (0, 1600))))), ((3, []), zaI)])], none), [])]
def zc_11 : zCt := (44, 8, [.inr (.inl 8), .inl (7, [])], [], [], .branch 13 (.branch 8 (.leaf (8, 1, 1600, .inl ((-128), 127), [])) (.branch 9 (.leaf (9, 101, 8, .inr 3, [((0, []), .inr (.inl 9)), ((1, []), zaI), ((2, []), zaI), ((3, []), .inr (.inl 22)), ((5, []), .inr (.inr (.inr (.inl (0, 30)))))])) (.leaf (10, 102, 11, .inr 3, [((1, []), .inr (.inl 13))])))) (.branch 16 (.leaf (14, 104, 7, .inr 3, [((1, []), zaI), ((3, []), .inr (.inr (.inr (.inl (0, 540))))), ((5, []), .inr (.inl 16))])) (.branch 22 (.leaf (17, 0, 540, .inr 1, [])) (.leaf (23, 105, 6, .inr 3, [((0, []), zaI), ((1, []), .inr (.inr (.inr (.inl (0, 1600))))), ((2, []), .inr (.inr (.inr (.inl (0, 1600))))), ((3, []), zaI), ((4, []), .inr (.inl 7)), ((5, []), .inr (.inr (.inr (.inl (0, 1600)))))])))), zw_11, [], zp_11.map (fun p => p.1))
def zu_11 : List zCu := [(([(44, 5, [(2, .inl (0, [(0, 1)])), (0, .inr (.inl 8)), (1, .inl (7, []))], [])], .branch 13 (.branch 8 (.leaf (8, 1, 1600, .inl ((-128), 127), [])) (.branch 9 (.leaf (9, 101, 8, .inr 3, [((0, []), .inr (.inl 9)), ((3, []), .inr (.inl 22)), ((1, []), zaI), ((2, []), zaI), ((5, []), .inr (.inr (.inr (.inl (0, 30)))))])) (.leaf (10, 102, 11, .inr 3, [((1, []), .inr (.inl 13))])))) (.branch 16 (.leaf (14, 104, 7, .inr 3, [((5, []), .inr (.inl 16)), ((1, []), zaI), ((3, []), .inr (.inr (.inr (.inl (0, 540)))))])) (.branch 22 (.leaf (17, 0, 540, .inr 1, [])) (.leaf (23, 105, 6, .inr 3, [((4, []), .inr (.inl 7)), ((5, []), .inr (.inr (.inr (.inl (0, 1600))))), ((0, []), zaI), ((1, []), .inr (.inr (.inr (.inl (0, 1600))))), ((2, []), .inr (.inr (.inr (.inl (0, 1600))))), ((3, []), zaI)])))), [(0, 30)], [], []), [.inl (0, 2)], (30, [(0, (-1))]))]
def zs_11 : List zCt := [zc_10, zc_5]
theorem za_11 : zwin zw_11 zc_11.2.2.2.2.2.1 = true := by decide +kernel
theorem z0_11 : zst0 mi_P zw_11 [] [] (fun d y as t en => zcal zw_11 d y as t en zs_11) zc_11 zp_11 zu_11 548 = true := by decide +kernel
theorem zk_11 : zu_11.all (zck mi_P zc_11.2.1 zw_11 false [] [] (fun d y as t en => zcal zw_11 d y as t en zs_11) zc_11.2.2.2.1.length zc_11.2.2.2.1 zc_11.2.2.2.2.2.1 zp_11 zu_11 548) = true := by decide +kernel
theorem zt_11 {S : Nat × (Nat → Int32)} : zCtr mi_P S zTt zc_11 := by
  have hc : ∀ c ∈ zs_11, zCtr mi_P S zTt c := by
    intro c hc
    simp only [zs_11, List.mem_cons, List.not_mem_nil, or_false] at hc
    rcases hc with rfl | rfl
    · exact zt_10
    · exact zt_5
  exact zCtr_of (Om := zTt) (ct := zc_11) (ps := zp_11) (fun _ _ _ _ => trivial) rfl hc za_11 z0_11 zk_11
/-- L$Reader.readSum(I)V -/
def zw_12 : zW := .branch 16 (.branch 13 (.leaf (9, [1, 2, 5])) (.leaf (14, [1, 3]))) (.branch 22 (.leaf (17, [0])) (.leaf (23, [0, 1, 2, 3])))
def zp_12 : List (zPo × List (Nat ⊕ (Nat × zL))) := [(([], [], [(8, [((1, []), zaI), ((2, []), zaI), ((5, []), .inr (.inr (.inr (.inl (0, 30)))))]), (13, [((1, []), zaI), ((3, []), .inr (.inr (.inr (.inl (0, 540)))))]), (16, []), (22, [((0, []), zaI), ((1, []), .inr (.inr (.inr (.inl (0, 1600))))), ((2, []), .inr (.inr (.inr (.inl (0, 1600))))), ((3, []), zaI)])], none), [])]
def zc_12 : zCt := (43, 9, [.inr (.inl 8), .inl (7, [])], [], [], .branch 13 (.branch 8 (.leaf (8, 1, 1600, .inl ((-128), 127), [])) (.branch 9 (.leaf (9, 101, 8, .inr 3, [((0, []), .inr (.inl 9)), ((1, []), zaI), ((2, []), zaI), ((3, []), .inr (.inl 22)), ((5, []), .inr (.inr (.inr (.inl (0, 30)))))])) (.leaf (10, 102, 11, .inr 3, [((1, []), .inr (.inl 13))])))) (.branch 16 (.leaf (14, 104, 7, .inr 3, [((1, []), zaI), ((3, []), .inr (.inr (.inr (.inl (0, 540))))), ((5, []), .inr (.inl 16))])) (.branch 22 (.leaf (17, 0, 540, .inr 1, [])) (.leaf (23, 105, 6, .inr 3, [((0, []), zaI), ((1, []), .inr (.inr (.inr (.inl (0, 1600))))), ((2, []), .inr (.inr (.inr (.inl (0, 1600))))), ((3, []), zaI), ((4, []), .inr (.inl 7)), ((5, []), .inr (.inr (.inr (.inl (0, 1600)))))])))), zw_12, [], zp_12.map (fun p => p.1))
def zu_12 : List zCu := [(([(43, 5, [(2, .inl (0, [(0, 1)])), (0, .inr (.inl 8)), (1, .inl (7, []))], [])], .branch 13 (.branch 8 (.leaf (8, 1, 1600, .inl ((-128), 127), [])) (.branch 9 (.leaf (9, 101, 8, .inr 3, [((0, []), .inr (.inl 9)), ((3, []), .inr (.inl 22)), ((1, []), zaI), ((2, []), zaI), ((5, []), .inr (.inr (.inr (.inl (0, 30)))))])) (.leaf (10, 102, 11, .inr 3, [((1, []), .inr (.inl 13))])))) (.branch 16 (.leaf (14, 104, 7, .inr 3, [((5, []), .inr (.inl 16)), ((1, []), zaI), ((3, []), .inr (.inr (.inr (.inl (0, 540)))))])) (.branch 22 (.leaf (17, 0, 540, .inr 1, [])) (.leaf (23, 105, 6, .inr 3, [((4, []), .inr (.inl 7)), ((5, []), .inr (.inr (.inr (.inl (0, 1600))))), ((0, []), zaI), ((1, []), .inr (.inr (.inr (.inl (0, 1600))))), ((2, []), .inr (.inr (.inr (.inl (0, 1600))))), ((3, []), zaI)])))), [(0, 30)], [], []), [.inl (0, 2)], (30, [(0, (-1))]))]
def zs_12 : List zCt := [zc_11, zc_5]
theorem za_12 : zwin zw_12 zc_12.2.2.2.2.2.1 = true := by decide +kernel
theorem z0_12 : zst0 mi_P zw_12 [] [] (fun d y as t en => zcal zw_12 d y as t en zs_12) zc_12 zp_12 zu_12 408 = true := by decide +kernel
theorem zk_12 : zu_12.all (zck mi_P zc_12.2.1 zw_12 false [] [] (fun d y as t en => zcal zw_12 d y as t en zs_12) zc_12.2.2.2.1.length zc_12.2.2.2.1 zc_12.2.2.2.2.2.1 zp_12 zu_12 408) = true := by decide +kernel
theorem zt_12 {S : Nat × (Nat → Int32)} : zCtr mi_P S zTt zc_12 := by
  have hc : ∀ c ∈ zs_12, zCtr mi_P S zTt c := by
    intro c hc
    simp only [zs_12, List.mem_cons, List.not_mem_nil, or_false] at hc
    rcases hc with rfl | rfl
    · exact zt_11
    · exact zt_5
  exact zCtr_of (Om := zTt) (ct := zc_12) (ps := zp_12) (fun _ _ _ _ => trivial) rfl hc za_12 z0_12 zk_12
/-- L$Reader.readRelation(I)V -/
def zw_13 : zW := .branch 16 (.branch 13 (.leaf (9, [1, 2, 5])) (.leaf (14, [1, 3]))) (.branch 22 (.leaf (17, [0])) (.leaf (23, [0, 1, 2, 3])))
def zp_13 : List (zPo × List (Nat ⊕ (Nat × zL))) := [(([], [], [(8, [((1, []), zaI), ((2, []), zaI), ((5, []), .inr (.inr (.inr (.inl (0, 30)))))]), (13, [((1, []), zaI), ((3, []), .inr (.inr (.inr (.inl (0, 540)))))]), (16, []), (22, [((0, []), zaI), ((1, []), .inr (.inr (.inr (.inl (0, 1600))))), ((2, []), .inr (.inr (.inr (.inl (0, 1600))))), ((3, []), zaI)])], none), [])]
def zc_13 : zCt := (42, 10, [.inr (.inl 8), .inl (7, [])], [], [], .branch 13 (.branch 8 (.leaf (8, 1, 1600, .inl ((-128), 127), [])) (.branch 9 (.leaf (9, 101, 8, .inr 3, [((0, []), .inr (.inl 9)), ((1, []), zaI), ((2, []), zaI), ((3, []), .inr (.inl 22)), ((5, []), .inr (.inr (.inr (.inl (0, 30)))))])) (.leaf (10, 102, 11, .inr 3, [((1, []), .inr (.inl 13))])))) (.branch 16 (.leaf (14, 104, 7, .inr 3, [((1, []), zaI), ((3, []), .inr (.inr (.inr (.inl (0, 540))))), ((5, []), .inr (.inl 16))])) (.branch 22 (.leaf (17, 0, 540, .inr 1, [])) (.leaf (23, 105, 6, .inr 3, [((0, []), zaI), ((1, []), .inr (.inr (.inr (.inl (0, 1600))))), ((2, []), .inr (.inr (.inr (.inl (0, 1600))))), ((3, []), zaI), ((4, []), .inr (.inl 7)), ((5, []), .inr (.inr (.inr (.inl (0, 1600)))))])))), zw_13, [], zp_13.map (fun p => p.1))
def zu_13 : List zCu := []
def zs_13 : List zCt := [zc_12, zc_5]
theorem za_13 : zwin zw_13 zc_13.2.2.2.2.2.1 = true := by decide +kernel
theorem z0_13 : zst0 mi_P zw_13 [] [] (fun d y as t en => zcal zw_13 d y as t en zs_13) zc_13 zp_13 zu_13 470 = true := by decide +kernel
theorem zk_13 : zu_13.all (zck mi_P zc_13.2.1 zw_13 false [] [] (fun d y as t en => zcal zw_13 d y as t en zs_13) zc_13.2.2.2.1.length zc_13.2.2.2.1 zc_13.2.2.2.2.2.1 zp_13 zu_13 470) = true := by decide +kernel
theorem zt_13 {S : Nat × (Nat → Int32)} : zCtr mi_P S zTt zc_13 := by
  have hc : ∀ c ∈ zs_13, zCtr mi_P S zTt c := by
    intro c hc
    simp only [zs_13, List.mem_cons, List.not_mem_nil, or_false] at hc
    rcases hc with rfl | rfl
    · exact zt_12
    · exact zt_5
  exact zCtr_of (Om := zTt) (ct := zc_13) (ps := zp_13) (fun _ _ _ _ => trivial) rfl hc za_13 z0_13 zk_13
/-- L$Reader.readOne(I)V -/
def zw_14 : zW := .branch 16 (.branch 13 (.leaf (9, [1, 2, 5])) (.leaf (14, [1, 3]))) (.branch 22 (.leaf (17, [0])) (.leaf (23, [0, 1, 2, 3])))
def zp_14 : List (zPo × List (Nat ⊕ (Nat × zL))) := [(([], [], [(8, [((1, []), zaI), ((2, []), zaI), ((5, []), .inr (.inr (.inr (.inl (0, 30)))))]), (13, [((1, []), zaI), ((3, []), .inr (.inr (.inr (.inl (0, 540)))))]), (16, []), (22, [((0, []), zaI), ((1, []), .inr (.inr (.inr (.inl (0, 1600))))), ((2, []), .inr (.inr (.inr (.inl (0, 1600))))), ((3, []), zaI)])], none), [])]
def zc_14 : zCt := (41, 11, [.inr (.inl 8), .inl (7, [])], [], [], .branch 13 (.branch 8 (.leaf (8, 1, 1600, .inl ((-128), 127), [])) (.branch 9 (.leaf (9, 101, 8, .inr 3, [((0, []), .inr (.inl 9)), ((1, []), zaI), ((2, []), zaI), ((3, []), .inr (.inl 22)), ((5, []), .inr (.inr (.inr (.inl (0, 30)))))])) (.leaf (10, 102, 11, .inr 3, [((1, []), .inr (.inl 13))])))) (.branch 16 (.leaf (14, 104, 7, .inr 3, [((1, []), zaI), ((3, []), .inr (.inr (.inr (.inl (0, 540))))), ((5, []), .inr (.inl 16))])) (.branch 22 (.leaf (17, 0, 540, .inr 1, [])) (.leaf (23, 105, 6, .inr 3, [((0, []), zaI), ((1, []), .inr (.inr (.inr (.inl (0, 1600))))), ((2, []), .inr (.inr (.inr (.inl (0, 1600))))), ((3, []), zaI), ((4, []), .inr (.inl 7)), ((5, []), .inr (.inr (.inr (.inl (0, 1600)))))])))), zw_14, [], zp_14.map (fun p => p.1))
def zu_14 : List zCu := []
def zs_14 : List zCt := [zc_7, zc_13]
theorem za_14 : zwin zw_14 zc_14.2.2.2.2.2.1 = true := by decide +kernel
theorem z0_14 : zst0 mi_P zw_14 [] [] (fun d y as t en => zcal zw_14 d y as t en zs_14) zc_14 zp_14 zu_14 248 = true := by decide +kernel
theorem zk_14 : zu_14.all (zck mi_P zc_14.2.1 zw_14 false [] [] (fun d y as t en => zcal zw_14 d y as t en zs_14) zc_14.2.2.2.1.length zc_14.2.2.2.1 zc_14.2.2.2.2.2.1 zp_14 zu_14 248) = true := by decide +kernel
theorem zt_14 {S : Nat × (Nat → Int32)} : zCtr mi_P S zTt zc_14 := by
  have hc : ∀ c ∈ zs_14, zCtr mi_P S zTt c := by
    intro c hc
    simp only [zs_14, List.mem_cons, List.not_mem_nil, or_false] at hc
    rcases hc with rfl | rfl
    · exact zt_7
    · exact zt_13
  exact zCtr_of (Om := zTt) (ct := zc_14) (ps := zp_14) (fun _ _ _ _ => trivial) rfl hc za_14 z0_14 zk_14
/-- L$Reader.readAnds(I)V -/
def zw_15 : zW := .branch 16 (.branch 13 (.leaf (9, [1, 2, 5])) (.leaf (14, [1, 3]))) (.branch 22 (.leaf (17, [0])) (.leaf (23, [0, 1, 2, 3])))
def zp_15 : List (zPo × List (Nat ⊕ (Nat × zL))) := [(([], [], [(8, [((1, []), zaI), ((2, []), zaI), ((5, []), .inr (.inr (.inr (.inl (0, 30)))))]), (13, [((1, []), zaI), ((3, []), .inr (.inr (.inr (.inl (0, 540)))))]), (16, []), (22, [((0, []), zaI), ((1, []), .inr (.inr (.inr (.inl (0, 1600))))), ((2, []), .inr (.inr (.inr (.inl (0, 1600))))), ((3, []), zaI)])], none), [])]
def zc_15 : zCt := (40, 12, [.inr (.inl 8), .inl (7, [])], [], [], .branch 13 (.branch 8 (.leaf (8, 1, 1600, .inl ((-128), 127), [])) (.branch 9 (.leaf (9, 101, 8, .inr 3, [((0, []), .inr (.inl 9)), ((1, []), zaI), ((2, []), zaI), ((3, []), .inr (.inl 22)), ((5, []), .inr (.inr (.inr (.inl (0, 30)))))])) (.leaf (10, 102, 11, .inr 3, [((1, []), .inr (.inl 13))])))) (.branch 16 (.leaf (14, 104, 7, .inr 3, [((1, []), zaI), ((3, []), .inr (.inr (.inr (.inl (0, 540))))), ((5, []), .inr (.inl 16))])) (.branch 22 (.leaf (17, 0, 540, .inr 1, [])) (.leaf (23, 105, 6, .inr 3, [((0, []), zaI), ((1, []), .inr (.inr (.inr (.inl (0, 1600))))), ((2, []), .inr (.inr (.inr (.inl (0, 1600))))), ((3, []), zaI), ((4, []), .inr (.inl 7)), ((5, []), .inr (.inr (.inr (.inl (0, 1600)))))])))), zw_15, [], zp_15.map (fun p => p.1))
def zu_15 : List zCu := [(([(40, 5, [(2, .inl (0, [(0, 1)])), (0, .inr (.inl 8)), (1, .inl (7, []))], [])], .branch 13 (.branch 8 (.leaf (8, 1, 1600, .inl ((-128), 127), [])) (.branch 9 (.leaf (9, 101, 8, .inr 3, [((0, []), .inr (.inl 9)), ((3, []), .inr (.inl 22)), ((1, []), zaI), ((2, []), zaI), ((5, []), .inr (.inr (.inr (.inl (0, 30)))))])) (.leaf (10, 102, 11, .inr 3, [((1, []), .inr (.inl 13))])))) (.branch 16 (.leaf (14, 104, 7, .inr 3, [((5, []), .inr (.inl 16)), ((1, []), zaI), ((3, []), .inr (.inr (.inr (.inl (0, 540)))))])) (.branch 22 (.leaf (17, 0, 540, .inr 1, [])) (.leaf (23, 105, 6, .inr 3, [((4, []), .inr (.inl 7)), ((5, []), .inr (.inr (.inr (.inl (0, 1600))))), ((0, []), zaI), ((1, []), .inr (.inr (.inr (.inl (0, 1600))))), ((2, []), .inr (.inr (.inr (.inl (0, 1600))))), ((3, []), zaI)])))), [(0, 30)], [], []), [.inl (0, 2)], (30, [(0, (-1))]))]
def zs_15 : List zCt := [zc_14, zc_5]
theorem za_15 : zwin zw_15 zc_15.2.2.2.2.2.1 = true := by decide +kernel
theorem z0_15 : zst0 mi_P zw_15 [] [] (fun d y as t en => zcal zw_15 d y as t en zs_15) zc_15 zp_15 zu_15 292 = true := by decide +kernel
theorem zk_15 : zu_15.all (zck mi_P zc_15.2.1 zw_15 false [] [] (fun d y as t en => zcal zw_15 d y as t en zs_15) zc_15.2.2.2.1.length zc_15.2.2.2.1 zc_15.2.2.2.2.2.1 zp_15 zu_15 292) = true := by decide +kernel
theorem zt_15 {S : Nat × (Nat → Int32)} : zCtr mi_P S zTt zc_15 := by
  have hc : ∀ c ∈ zs_15, zCtr mi_P S zTt c := by
    intro c hc
    simp only [zs_15, List.mem_cons, List.not_mem_nil, or_false] at hc
    rcases hc with rfl | rfl
    · exact zt_14
    · exact zt_5
  exact zCtr_of (Om := zTt) (ct := zc_15) (ps := zp_15) (fun _ _ _ _ => trivial) rfl hc za_15 z0_15 zk_15
/-- L$Reader.readOrs(I)V -/
def zw_16 : zW := .branch 16 (.branch 13 (.leaf (9, [1, 2, 5])) (.leaf (14, [1, 3]))) (.branch 22 (.leaf (17, [0])) (.leaf (23, [0, 1, 2, 3])))
def zp_16 : List (zPo × List (Nat ⊕ (Nat × zL))) := [(([], [], [(8, [((1, []), zaI), ((2, []), zaI), ((5, []), .inr (.inr (.inr (.inl (0, 30)))))]), (13, [((1, []), zaI), ((3, []), .inr (.inr (.inr (.inl (0, 540)))))]), (16, []), (22, [((0, []), zaI), ((1, []), .inr (.inr (.inr (.inl (0, 1600))))), ((2, []), .inr (.inr (.inr (.inl (0, 1600))))), ((3, []), zaI)])], none), [])]
def zc_16 : zCt := (39, 13, [.inr (.inl 8), .inl (7, [])], [], [], .branch 13 (.branch 8 (.leaf (8, 1, 1600, .inl ((-128), 127), [])) (.branch 9 (.leaf (9, 101, 8, .inr 3, [((0, []), .inr (.inl 9)), ((1, []), zaI), ((2, []), zaI), ((3, []), .inr (.inl 22)), ((5, []), .inr (.inr (.inr (.inl (0, 30)))))])) (.leaf (10, 102, 11, .inr 3, [((1, []), .inr (.inl 13))])))) (.branch 16 (.leaf (14, 104, 7, .inr 3, [((1, []), zaI), ((3, []), .inr (.inr (.inr (.inl (0, 540))))), ((5, []), .inr (.inl 16))])) (.branch 22 (.leaf (17, 0, 540, .inr 1, [])) (.leaf (23, 105, 6, .inr 3, [((0, []), zaI), ((1, []), .inr (.inr (.inr (.inl (0, 1600))))), ((2, []), .inr (.inr (.inr (.inl (0, 1600))))), ((3, []), zaI), ((4, []), .inr (.inl 7)), ((5, []), .inr (.inr (.inr (.inl (0, 1600)))))])))), zw_16, [], zp_16.map (fun p => p.1))
def zu_16 : List zCu := [(([(39, 5, [(2, .inl (0, [(0, 1)])), (0, .inr (.inl 8)), (1, .inl (7, []))], [])], .branch 13 (.branch 8 (.leaf (8, 1, 1600, .inl ((-128), 127), [])) (.branch 9 (.leaf (9, 101, 8, .inr 3, [((0, []), .inr (.inl 9)), ((3, []), .inr (.inl 22)), ((1, []), zaI), ((2, []), zaI), ((5, []), .inr (.inr (.inr (.inl (0, 30)))))])) (.leaf (10, 102, 11, .inr 3, [((1, []), .inr (.inl 13))])))) (.branch 16 (.leaf (14, 104, 7, .inr 3, [((5, []), .inr (.inl 16)), ((1, []), zaI), ((3, []), .inr (.inr (.inr (.inl (0, 540)))))])) (.branch 22 (.leaf (17, 0, 540, .inr 1, [])) (.leaf (23, 105, 6, .inr 3, [((4, []), .inr (.inl 7)), ((5, []), .inr (.inr (.inr (.inl (0, 1600))))), ((0, []), zaI), ((1, []), .inr (.inr (.inr (.inl (0, 1600))))), ((2, []), .inr (.inr (.inr (.inl (0, 1600))))), ((3, []), zaI)])))), [(0, 30)], [], []), [.inl (0, 2)], (30, [(0, (-1))]))]
def zs_16 : List zCt := [zc_15, zc_5]
theorem za_16 : zwin zw_16 zc_16.2.2.2.2.2.1 = true := by decide +kernel
theorem z0_16 : zst0 mi_P zw_16 [] [] (fun d y as t en => zcal zw_16 d y as t en zs_16) zc_16 zp_16 zu_16 292 = true := by decide +kernel
theorem zk_16 : zu_16.all (zck mi_P zc_16.2.1 zw_16 false [] [] (fun d y as t en => zcal zw_16 d y as t en zs_16) zc_16.2.2.2.1.length zc_16.2.2.2.1 zc_16.2.2.2.2.2.1 zp_16 zu_16 292) = true := by decide +kernel
theorem zt_16 {S : Nat × (Nat → Int32)} : zCtr mi_P S zTt zc_16 := by
  have hc : ∀ c ∈ zs_16, zCtr mi_P S zTt c := by
    intro c hc
    simp only [zs_16, List.mem_cons, List.not_mem_nil, or_false] at hc
    rcases hc with rfl | rfl
    · exact zt_15
    · exact zt_5
  exact zCtr_of (Om := zTt) (ct := zc_16) (ps := zp_16) (fun _ _ _ _ => trivial) rfl hc za_16 z0_16 zk_16
/-- L$Reader.readUnit(I)V -/
def zw_17 : zW := .branch 16 (.branch 13 (.leaf (9, [1, 2, 5])) (.leaf (14, [1, 3]))) (.branch 22 (.leaf (17, [0])) (.leaf (23, [0, 1, 2, 3])))
def zp_17 : List (zPo × List (Nat ⊕ (Nat × zL))) := [(([], [], [(8, [((1, []), zaI), ((2, []), zaI), ((5, []), .inr (.inr (.inr (.inl (0, 30)))))]), (13, [((1, []), zaI), ((3, []), .inr (.inr (.inr (.inl (0, 540)))))]), (16, []), (22, [((0, []), zaI), ((1, []), .inr (.inr (.inr (.inl (0, 1600))))), ((2, []), .inr (.inr (.inr (.inl (0, 1600))))), ((3, []), zaI)])], none), [])]
def zc_17 : zCt := (45, 14, [.inr (.inl 8), .inl (6, [])], [], [], .branch 13 (.branch 8 (.leaf (8, 1, 1600, .inl ((-128), 127), [])) (.branch 9 (.leaf (9, 101, 8, .inr 3, [((0, []), .inr (.inl 9)), ((1, []), zaI), ((2, []), zaI), ((3, []), .inr (.inl 22)), ((5, []), .inr (.inr (.inr (.inl (0, 30)))))])) (.leaf (10, 102, 11, .inr 3, [((1, []), .inr (.inl 13))])))) (.branch 16 (.leaf (14, 104, 7, .inr 3, [((1, []), zaI), ((3, []), .inr (.inr (.inr (.inl (0, 540))))), ((5, []), .inr (.inl 16))])) (.branch 22 (.leaf (17, 0, 540, .inr 1, [])) (.leaf (23, 105, 6, .inr 3, [((0, []), zaI), ((1, []), .inr (.inr (.inr (.inl (0, 1600))))), ((2, []), .inr (.inr (.inr (.inl (0, 1600))))), ((3, []), zaI), ((4, []), .inr (.inl 7)), ((5, []), .inr (.inr (.inr (.inl (0, 1600)))))])))), zw_17, [], zp_17.map (fun p => p.1))
def zu_17 : List zCu := []
def zs_17 : List zCt := [zc_7, zc_5, zc_16]
theorem za_17 : zwin zw_17 zc_17.2.2.2.2.2.1 = true := by decide +kernel
theorem z0_17 : zst0 mi_P zw_17 [] [] (fun d y as t en => zcal zw_17 d y as t en zs_17) zc_17 zp_17 zu_17 916 = true := by decide +kernel
theorem zk_17 : zu_17.all (zck mi_P zc_17.2.1 zw_17 false [] [] (fun d y as t en => zcal zw_17 d y as t en zs_17) zc_17.2.2.2.1.length zc_17.2.2.2.1 zc_17.2.2.2.2.2.1 zp_17 zu_17 916) = true := by decide +kernel
theorem zt_17 {S : Nat × (Nat → Int32)} : zCtr mi_P S zTt zc_17 := by
  have hc : ∀ c ∈ zs_17, zCtr mi_P S zTt c := by
    intro c hc
    simp only [zs_17, List.mem_cons, List.not_mem_nil, or_false] at hc
    rcases hc with rfl | rfl | rfl
    · exact zt_7
    · exact zt_5
    · exact zt_16
  exact zCtr_of (Om := zTt) (ct := zc_17) (ps := zp_17) (fun _ _ _ _ => trivial) rfl hc za_17 z0_17 zk_17
/-- L$Reader.readTerm(I)V -/
def zw_18 : zW := .branch 16 (.branch 13 (.leaf (9, [1, 2, 5])) (.leaf (14, [1, 3]))) (.branch 22 (.leaf (17, [0])) (.leaf (23, [0, 1, 2, 3])))
def zp_18 : List (zPo × List (Nat ⊕ (Nat × zL))) := [(([], [], [(8, [((1, []), zaI), ((2, []), zaI), ((5, []), .inr (.inr (.inr (.inl (0, 30)))))]), (13, [((1, []), zaI), ((3, []), .inr (.inr (.inr (.inl (0, 540)))))]), (16, []), (22, [((0, []), zaI), ((1, []), .inr (.inr (.inr (.inl (0, 1600))))), ((2, []), .inr (.inr (.inr (.inl (0, 1600))))), ((3, []), zaI)])], none), [])]
def zc_18 : zCt := (44, 15, [.inr (.inl 8), .inl (6, [])], [], [], .branch 13 (.branch 8 (.leaf (8, 1, 1600, .inl ((-128), 127), [])) (.branch 9 (.leaf (9, 101, 8, .inr 3, [((0, []), .inr (.inl 9)), ((1, []), zaI), ((2, []), zaI), ((3, []), .inr (.inl 22)), ((5, []), .inr (.inr (.inr (.inl (0, 30)))))])) (.leaf (10, 102, 11, .inr 3, [((1, []), .inr (.inl 13))])))) (.branch 16 (.leaf (14, 104, 7, .inr 3, [((1, []), zaI), ((3, []), .inr (.inr (.inr (.inl (0, 540))))), ((5, []), .inr (.inl 16))])) (.branch 22 (.leaf (17, 0, 540, .inr 1, [])) (.leaf (23, 105, 6, .inr 3, [((0, []), zaI), ((1, []), .inr (.inr (.inr (.inl (0, 1600))))), ((2, []), .inr (.inr (.inr (.inl (0, 1600))))), ((3, []), zaI), ((4, []), .inr (.inl 7)), ((5, []), .inr (.inr (.inr (.inl (0, 1600)))))])))), zw_18, [], zp_18.map (fun p => p.1))
def zu_18 : List zCu := [(([(44, 5, [(2, .inl (0, [(0, 1)])), (0, .inr (.inl 8)), (1, .inl (6, []))], [])], .branch 13 (.branch 8 (.leaf (8, 1, 1600, .inl ((-128), 127), [])) (.branch 9 (.leaf (9, 101, 8, .inr 3, [((0, []), .inr (.inl 9)), ((3, []), .inr (.inl 22)), ((1, []), zaI), ((2, []), zaI), ((5, []), .inr (.inr (.inr (.inl (0, 30)))))])) (.leaf (10, 102, 11, .inr 3, [((1, []), .inr (.inl 13))])))) (.branch 16 (.leaf (14, 104, 7, .inr 3, [((5, []), .inr (.inl 16)), ((1, []), zaI), ((3, []), .inr (.inr (.inr (.inl (0, 540)))))])) (.branch 22 (.leaf (17, 0, 540, .inr 1, [])) (.leaf (23, 105, 6, .inr 3, [((4, []), .inr (.inl 7)), ((5, []), .inr (.inr (.inr (.inl (0, 1600))))), ((0, []), zaI), ((1, []), .inr (.inr (.inr (.inl (0, 1600))))), ((2, []), .inr (.inr (.inr (.inl (0, 1600))))), ((3, []), zaI)])))), [(0, 30)], [], []), [.inl (0, 2)], (30, [(0, (-1))]))]
def zs_18 : List zCt := [zc_17, zc_5]
theorem za_18 : zwin zw_18 zc_18.2.2.2.2.2.1 = true := by decide +kernel
theorem z0_18 : zst0 mi_P zw_18 [] [] (fun d y as t en => zcal zw_18 d y as t en zs_18) zc_18 zp_18 zu_18 548 = true := by decide +kernel
theorem zk_18 : zu_18.all (zck mi_P zc_18.2.1 zw_18 false [] [] (fun d y as t en => zcal zw_18 d y as t en zs_18) zc_18.2.2.2.1.length zc_18.2.2.2.1 zc_18.2.2.2.2.2.1 zp_18 zu_18 548) = true := by decide +kernel
theorem zt_18 {S : Nat × (Nat → Int32)} : zCtr mi_P S zTt zc_18 := by
  have hc : ∀ c ∈ zs_18, zCtr mi_P S zTt c := by
    intro c hc
    simp only [zs_18, List.mem_cons, List.not_mem_nil, or_false] at hc
    rcases hc with rfl | rfl
    · exact zt_17
    · exact zt_5
  exact zCtr_of (Om := zTt) (ct := zc_18) (ps := zp_18) (fun _ _ _ _ => trivial) rfl hc za_18 z0_18 zk_18
/-- L$Reader.readSum(I)V -/
def zw_19 : zW := .branch 16 (.branch 13 (.leaf (9, [1, 2, 5])) (.leaf (14, [1, 3]))) (.branch 22 (.leaf (17, [0])) (.leaf (23, [0, 1, 2, 3])))
def zp_19 : List (zPo × List (Nat ⊕ (Nat × zL))) := [(([], [], [(8, [((1, []), zaI), ((2, []), zaI), ((5, []), .inr (.inr (.inr (.inl (0, 30)))))]), (13, [((1, []), zaI), ((3, []), .inr (.inr (.inr (.inl (0, 540)))))]), (16, []), (22, [((0, []), zaI), ((1, []), .inr (.inr (.inr (.inl (0, 1600))))), ((2, []), .inr (.inr (.inr (.inl (0, 1600))))), ((3, []), zaI)])], none), [])]
def zc_19 : zCt := (43, 16, [.inr (.inl 8), .inl (6, [])], [], [], .branch 13 (.branch 8 (.leaf (8, 1, 1600, .inl ((-128), 127), [])) (.branch 9 (.leaf (9, 101, 8, .inr 3, [((0, []), .inr (.inl 9)), ((1, []), zaI), ((2, []), zaI), ((3, []), .inr (.inl 22)), ((5, []), .inr (.inr (.inr (.inl (0, 30)))))])) (.leaf (10, 102, 11, .inr 3, [((1, []), .inr (.inl 13))])))) (.branch 16 (.leaf (14, 104, 7, .inr 3, [((1, []), zaI), ((3, []), .inr (.inr (.inr (.inl (0, 540))))), ((5, []), .inr (.inl 16))])) (.branch 22 (.leaf (17, 0, 540, .inr 1, [])) (.leaf (23, 105, 6, .inr 3, [((0, []), zaI), ((1, []), .inr (.inr (.inr (.inl (0, 1600))))), ((2, []), .inr (.inr (.inr (.inl (0, 1600))))), ((3, []), zaI), ((4, []), .inr (.inl 7)), ((5, []), .inr (.inr (.inr (.inl (0, 1600)))))])))), zw_19, [], zp_19.map (fun p => p.1))
def zu_19 : List zCu := [(([(43, 5, [(2, .inl (0, [(0, 1)])), (0, .inr (.inl 8)), (1, .inl (6, []))], [])], .branch 13 (.branch 8 (.leaf (8, 1, 1600, .inl ((-128), 127), [])) (.branch 9 (.leaf (9, 101, 8, .inr 3, [((0, []), .inr (.inl 9)), ((3, []), .inr (.inl 22)), ((1, []), zaI), ((2, []), zaI), ((5, []), .inr (.inr (.inr (.inl (0, 30)))))])) (.leaf (10, 102, 11, .inr 3, [((1, []), .inr (.inl 13))])))) (.branch 16 (.leaf (14, 104, 7, .inr 3, [((5, []), .inr (.inl 16)), ((1, []), zaI), ((3, []), .inr (.inr (.inr (.inl (0, 540)))))])) (.branch 22 (.leaf (17, 0, 540, .inr 1, [])) (.leaf (23, 105, 6, .inr 3, [((4, []), .inr (.inl 7)), ((5, []), .inr (.inr (.inr (.inl (0, 1600))))), ((0, []), zaI), ((1, []), .inr (.inr (.inr (.inl (0, 1600))))), ((2, []), .inr (.inr (.inr (.inl (0, 1600))))), ((3, []), zaI)])))), [(0, 30)], [], []), [.inl (0, 2)], (30, [(0, (-1))]))]
def zs_19 : List zCt := [zc_18, zc_5]
theorem za_19 : zwin zw_19 zc_19.2.2.2.2.2.1 = true := by decide +kernel
theorem z0_19 : zst0 mi_P zw_19 [] [] (fun d y as t en => zcal zw_19 d y as t en zs_19) zc_19 zp_19 zu_19 408 = true := by decide +kernel
theorem zk_19 : zu_19.all (zck mi_P zc_19.2.1 zw_19 false [] [] (fun d y as t en => zcal zw_19 d y as t en zs_19) zc_19.2.2.2.1.length zc_19.2.2.2.1 zc_19.2.2.2.2.2.1 zp_19 zu_19 408) = true := by decide +kernel
theorem zt_19 {S : Nat × (Nat → Int32)} : zCtr mi_P S zTt zc_19 := by
  have hc : ∀ c ∈ zs_19, zCtr mi_P S zTt c := by
    intro c hc
    simp only [zs_19, List.mem_cons, List.not_mem_nil, or_false] at hc
    rcases hc with rfl | rfl
    · exact zt_18
    · exact zt_5
  exact zCtr_of (Om := zTt) (ct := zc_19) (ps := zp_19) (fun _ _ _ _ => trivial) rfl hc za_19 z0_19 zk_19
/-- L$Reader.readRelation(I)V -/
def zw_20 : zW := .branch 16 (.branch 13 (.leaf (9, [1, 2, 5])) (.leaf (14, [1, 3]))) (.branch 22 (.leaf (17, [0])) (.leaf (23, [0, 1, 2, 3])))
def zp_20 : List (zPo × List (Nat ⊕ (Nat × zL))) := [(([], [], [(8, [((1, []), zaI), ((2, []), zaI), ((5, []), .inr (.inr (.inr (.inl (0, 30)))))]), (13, [((1, []), zaI), ((3, []), .inr (.inr (.inr (.inl (0, 540)))))]), (16, []), (22, [((0, []), zaI), ((1, []), .inr (.inr (.inr (.inl (0, 1600))))), ((2, []), .inr (.inr (.inr (.inl (0, 1600))))), ((3, []), zaI)])], none), [])]
def zc_20 : zCt := (42, 17, [.inr (.inl 8), .inl (6, [])], [], [], .branch 13 (.branch 8 (.leaf (8, 1, 1600, .inl ((-128), 127), [])) (.branch 9 (.leaf (9, 101, 8, .inr 3, [((0, []), .inr (.inl 9)), ((1, []), zaI), ((2, []), zaI), ((3, []), .inr (.inl 22)), ((5, []), .inr (.inr (.inr (.inl (0, 30)))))])) (.leaf (10, 102, 11, .inr 3, [((1, []), .inr (.inl 13))])))) (.branch 16 (.leaf (14, 104, 7, .inr 3, [((1, []), zaI), ((3, []), .inr (.inr (.inr (.inl (0, 540))))), ((5, []), .inr (.inl 16))])) (.branch 22 (.leaf (17, 0, 540, .inr 1, [])) (.leaf (23, 105, 6, .inr 3, [((0, []), zaI), ((1, []), .inr (.inr (.inr (.inl (0, 1600))))), ((2, []), .inr (.inr (.inr (.inl (0, 1600))))), ((3, []), zaI), ((4, []), .inr (.inl 7)), ((5, []), .inr (.inr (.inr (.inl (0, 1600)))))])))), zw_20, [], zp_20.map (fun p => p.1))
def zu_20 : List zCu := []
def zs_20 : List zCt := [zc_19, zc_5]
theorem za_20 : zwin zw_20 zc_20.2.2.2.2.2.1 = true := by decide +kernel
theorem z0_20 : zst0 mi_P zw_20 [] [] (fun d y as t en => zcal zw_20 d y as t en zs_20) zc_20 zp_20 zu_20 470 = true := by decide +kernel
theorem zk_20 : zu_20.all (zck mi_P zc_20.2.1 zw_20 false [] [] (fun d y as t en => zcal zw_20 d y as t en zs_20) zc_20.2.2.2.1.length zc_20.2.2.2.1 zc_20.2.2.2.2.2.1 zp_20 zu_20 470) = true := by decide +kernel
theorem zt_20 {S : Nat × (Nat → Int32)} : zCtr mi_P S zTt zc_20 := by
  have hc : ∀ c ∈ zs_20, zCtr mi_P S zTt c := by
    intro c hc
    simp only [zs_20, List.mem_cons, List.not_mem_nil, or_false] at hc
    rcases hc with rfl | rfl
    · exact zt_19
    · exact zt_5
  exact zCtr_of (Om := zTt) (ct := zc_20) (ps := zp_20) (fun _ _ _ _ => trivial) rfl hc za_20 z0_20 zk_20
/-- L$Reader.readOne(I)V -/
def zw_21 : zW := .branch 16 (.branch 13 (.leaf (9, [1, 2, 5])) (.leaf (14, [1, 3]))) (.branch 22 (.leaf (17, [0])) (.leaf (23, [0, 1, 2, 3])))
def zp_21 : List (zPo × List (Nat ⊕ (Nat × zL))) := [(([], [], [(8, [((1, []), zaI), ((2, []), zaI), ((5, []), .inr (.inr (.inr (.inl (0, 30)))))]), (13, [((1, []), zaI), ((3, []), .inr (.inr (.inr (.inl (0, 540)))))]), (16, []), (22, [((0, []), zaI), ((1, []), .inr (.inr (.inr (.inl (0, 1600))))), ((2, []), .inr (.inr (.inr (.inl (0, 1600))))), ((3, []), zaI)])], none), [])]
def zc_21 : zCt := (41, 18, [.inr (.inl 8), .inl (6, [])], [], [], .branch 13 (.branch 8 (.leaf (8, 1, 1600, .inl ((-128), 127), [])) (.branch 9 (.leaf (9, 101, 8, .inr 3, [((0, []), .inr (.inl 9)), ((1, []), zaI), ((2, []), zaI), ((3, []), .inr (.inl 22)), ((5, []), .inr (.inr (.inr (.inl (0, 30)))))])) (.leaf (10, 102, 11, .inr 3, [((1, []), .inr (.inl 13))])))) (.branch 16 (.leaf (14, 104, 7, .inr 3, [((1, []), zaI), ((3, []), .inr (.inr (.inr (.inl (0, 540))))), ((5, []), .inr (.inl 16))])) (.branch 22 (.leaf (17, 0, 540, .inr 1, [])) (.leaf (23, 105, 6, .inr 3, [((0, []), zaI), ((1, []), .inr (.inr (.inr (.inl (0, 1600))))), ((2, []), .inr (.inr (.inr (.inl (0, 1600))))), ((3, []), zaI), ((4, []), .inr (.inl 7)), ((5, []), .inr (.inr (.inr (.inl (0, 1600)))))])))), zw_21, [], zp_21.map (fun p => p.1))
def zu_21 : List zCu := []
def zs_21 : List zCt := [zc_5, zc_14, zc_20]
theorem za_21 : zwin zw_21 zc_21.2.2.2.2.2.1 = true := by decide +kernel
theorem z0_21 : zst0 mi_P zw_21 [] [] (fun d y as t en => zcal zw_21 d y as t en zs_21) zc_21 zp_21 zu_21 296 = true := by decide +kernel
theorem zk_21 : zu_21.all (zck mi_P zc_21.2.1 zw_21 false [] [] (fun d y as t en => zcal zw_21 d y as t en zs_21) zc_21.2.2.2.1.length zc_21.2.2.2.1 zc_21.2.2.2.2.2.1 zp_21 zu_21 296) = true := by decide +kernel
theorem zt_21 {S : Nat × (Nat → Int32)} : zCtr mi_P S zTt zc_21 := by
  have hc : ∀ c ∈ zs_21, zCtr mi_P S zTt c := by
    intro c hc
    simp only [zs_21, List.mem_cons, List.not_mem_nil, or_false] at hc
    rcases hc with rfl | rfl | rfl
    · exact zt_5
    · exact zt_14
    · exact zt_20
  exact zCtr_of (Om := zTt) (ct := zc_21) (ps := zp_21) (fun _ _ _ _ => trivial) rfl hc za_21 z0_21 zk_21
/-- L$Reader.readAnds(I)V -/
def zw_22 : zW := .branch 16 (.branch 13 (.leaf (9, [1, 2, 5])) (.leaf (14, [1, 3]))) (.branch 22 (.leaf (17, [0])) (.leaf (23, [0, 1, 2, 3])))
def zp_22 : List (zPo × List (Nat ⊕ (Nat × zL))) := [(([], [], [(8, [((1, []), zaI), ((2, []), zaI), ((5, []), .inr (.inr (.inr (.inl (0, 30)))))]), (13, [((1, []), zaI), ((3, []), .inr (.inr (.inr (.inl (0, 540)))))]), (16, []), (22, [((0, []), zaI), ((1, []), .inr (.inr (.inr (.inl (0, 1600))))), ((2, []), .inr (.inr (.inr (.inl (0, 1600))))), ((3, []), zaI)])], none), [])]
def zc_22 : zCt := (40, 19, [.inr (.inl 8), .inl (6, [])], [], [], .branch 13 (.branch 8 (.leaf (8, 1, 1600, .inl ((-128), 127), [])) (.branch 9 (.leaf (9, 101, 8, .inr 3, [((0, []), .inr (.inl 9)), ((1, []), zaI), ((2, []), zaI), ((3, []), .inr (.inl 22)), ((5, []), .inr (.inr (.inr (.inl (0, 30)))))])) (.leaf (10, 102, 11, .inr 3, [((1, []), .inr (.inl 13))])))) (.branch 16 (.leaf (14, 104, 7, .inr 3, [((1, []), zaI), ((3, []), .inr (.inr (.inr (.inl (0, 540))))), ((5, []), .inr (.inl 16))])) (.branch 22 (.leaf (17, 0, 540, .inr 1, [])) (.leaf (23, 105, 6, .inr 3, [((0, []), zaI), ((1, []), .inr (.inr (.inr (.inl (0, 1600))))), ((2, []), .inr (.inr (.inr (.inl (0, 1600))))), ((3, []), zaI), ((4, []), .inr (.inl 7)), ((5, []), .inr (.inr (.inr (.inl (0, 1600)))))])))), zw_22, [], zp_22.map (fun p => p.1))
def zu_22 : List zCu := [(([(40, 5, [(2, .inl (0, [(0, 1)])), (0, .inr (.inl 8)), (1, .inl (6, []))], [])], .branch 13 (.branch 8 (.leaf (8, 1, 1600, .inl ((-128), 127), [])) (.branch 9 (.leaf (9, 101, 8, .inr 3, [((0, []), .inr (.inl 9)), ((3, []), .inr (.inl 22)), ((1, []), zaI), ((2, []), zaI), ((5, []), .inr (.inr (.inr (.inl (0, 30)))))])) (.leaf (10, 102, 11, .inr 3, [((1, []), .inr (.inl 13))])))) (.branch 16 (.leaf (14, 104, 7, .inr 3, [((5, []), .inr (.inl 16)), ((1, []), zaI), ((3, []), .inr (.inr (.inr (.inl (0, 540)))))])) (.branch 22 (.leaf (17, 0, 540, .inr 1, [])) (.leaf (23, 105, 6, .inr 3, [((4, []), .inr (.inl 7)), ((5, []), .inr (.inr (.inr (.inl (0, 1600))))), ((0, []), zaI), ((1, []), .inr (.inr (.inr (.inl (0, 1600))))), ((2, []), .inr (.inr (.inr (.inl (0, 1600))))), ((3, []), zaI)])))), [(0, 30)], [], []), [.inl (0, 2)], (30, [(0, (-1))]))]
def zs_22 : List zCt := [zc_21, zc_5]
theorem za_22 : zwin zw_22 zc_22.2.2.2.2.2.1 = true := by decide +kernel
theorem z0_22 : zst0 mi_P zw_22 [] [] (fun d y as t en => zcal zw_22 d y as t en zs_22) zc_22 zp_22 zu_22 292 = true := by decide +kernel
theorem zk_22 : zu_22.all (zck mi_P zc_22.2.1 zw_22 false [] [] (fun d y as t en => zcal zw_22 d y as t en zs_22) zc_22.2.2.2.1.length zc_22.2.2.2.1 zc_22.2.2.2.2.2.1 zp_22 zu_22 292) = true := by decide +kernel
theorem zt_22 {S : Nat × (Nat → Int32)} : zCtr mi_P S zTt zc_22 := by
  have hc : ∀ c ∈ zs_22, zCtr mi_P S zTt c := by
    intro c hc
    simp only [zs_22, List.mem_cons, List.not_mem_nil, or_false] at hc
    rcases hc with rfl | rfl
    · exact zt_21
    · exact zt_5
  exact zCtr_of (Om := zTt) (ct := zc_22) (ps := zp_22) (fun _ _ _ _ => trivial) rfl hc za_22 z0_22 zk_22
/-- L$Reader.readOrs(I)V -/
def zw_23 : zW := .branch 16 (.branch 13 (.leaf (9, [1, 2, 5])) (.leaf (14, [1, 3]))) (.branch 22 (.leaf (17, [0])) (.leaf (23, [0, 1, 2, 3])))
def zp_23 : List (zPo × List (Nat ⊕ (Nat × zL))) := [(([], [], [(8, [((1, []), zaI), ((2, []), zaI), ((5, []), .inr (.inr (.inr (.inl (0, 30)))))]), (13, [((1, []), zaI), ((3, []), .inr (.inr (.inr (.inl (0, 540)))))]), (16, []), (22, [((0, []), zaI), ((1, []), .inr (.inr (.inr (.inl (0, 1600))))), ((2, []), .inr (.inr (.inr (.inl (0, 1600))))), ((3, []), zaI)])], none), [])]
def zc_23 : zCt := (39, 20, [.inr (.inl 8), .inl (6, [])], [], [], .branch 13 (.branch 8 (.leaf (8, 1, 1600, .inl ((-128), 127), [])) (.branch 9 (.leaf (9, 101, 8, .inr 3, [((0, []), .inr (.inl 9)), ((1, []), zaI), ((2, []), zaI), ((3, []), .inr (.inl 22)), ((5, []), .inr (.inr (.inr (.inl (0, 30)))))])) (.leaf (10, 102, 11, .inr 3, [((1, []), .inr (.inl 13))])))) (.branch 16 (.leaf (14, 104, 7, .inr 3, [((1, []), zaI), ((3, []), .inr (.inr (.inr (.inl (0, 540))))), ((5, []), .inr (.inl 16))])) (.branch 22 (.leaf (17, 0, 540, .inr 1, [])) (.leaf (23, 105, 6, .inr 3, [((0, []), zaI), ((1, []), .inr (.inr (.inr (.inl (0, 1600))))), ((2, []), .inr (.inr (.inr (.inl (0, 1600))))), ((3, []), zaI), ((4, []), .inr (.inl 7)), ((5, []), .inr (.inr (.inr (.inl (0, 1600)))))])))), zw_23, [], zp_23.map (fun p => p.1))
def zu_23 : List zCu := [(([(39, 5, [(2, .inl (0, [(0, 1)])), (0, .inr (.inl 8)), (1, .inl (6, []))], [])], .branch 13 (.branch 8 (.leaf (8, 1, 1600, .inl ((-128), 127), [])) (.branch 9 (.leaf (9, 101, 8, .inr 3, [((0, []), .inr (.inl 9)), ((3, []), .inr (.inl 22)), ((1, []), zaI), ((2, []), zaI), ((5, []), .inr (.inr (.inr (.inl (0, 30)))))])) (.leaf (10, 102, 11, .inr 3, [((1, []), .inr (.inl 13))])))) (.branch 16 (.leaf (14, 104, 7, .inr 3, [((5, []), .inr (.inl 16)), ((1, []), zaI), ((3, []), .inr (.inr (.inr (.inl (0, 540)))))])) (.branch 22 (.leaf (17, 0, 540, .inr 1, [])) (.leaf (23, 105, 6, .inr 3, [((4, []), .inr (.inl 7)), ((5, []), .inr (.inr (.inr (.inl (0, 1600))))), ((0, []), zaI), ((1, []), .inr (.inr (.inr (.inl (0, 1600))))), ((2, []), .inr (.inr (.inr (.inl (0, 1600))))), ((3, []), zaI)])))), [(0, 30)], [], []), [.inl (0, 2)], (30, [(0, (-1))]))]
def zs_23 : List zCt := [zc_22, zc_5]
theorem za_23 : zwin zw_23 zc_23.2.2.2.2.2.1 = true := by decide +kernel
theorem z0_23 : zst0 mi_P zw_23 [] [] (fun d y as t en => zcal zw_23 d y as t en zs_23) zc_23 zp_23 zu_23 292 = true := by decide +kernel
theorem zk_23 : zu_23.all (zck mi_P zc_23.2.1 zw_23 false [] [] (fun d y as t en => zcal zw_23 d y as t en zs_23) zc_23.2.2.2.1.length zc_23.2.2.2.1 zc_23.2.2.2.2.2.1 zp_23 zu_23 292) = true := by decide +kernel
theorem zt_23 {S : Nat × (Nat → Int32)} : zCtr mi_P S zTt zc_23 := by
  have hc : ∀ c ∈ zs_23, zCtr mi_P S zTt c := by
    intro c hc
    simp only [zs_23, List.mem_cons, List.not_mem_nil, or_false] at hc
    rcases hc with rfl | rfl
    · exact zt_22
    · exact zt_5
  exact zCtr_of (Om := zTt) (ct := zc_23) (ps := zp_23) (fun _ _ _ _ => trivial) rfl hc za_23 z0_23 zk_23
