/-- java/lang/String.length()I -/
def zw_5000 : zW := .leaf (0, [])
def zp_5000 : List (zPo × List (Nat ⊕ (Nat × zL))) := [(([], [], [], some (.inr (.inr (.inr (.inl (128, 128)))))), [])]
def zc_5000 : zCt := (278, 1, [.inr (.inl 1)], [], [], .leaf (0, 0, 0, .inr 3, []), zw_5000, [], zp_5000.map (fun p => p.1))
def zu_5000 : List zCu := []
def zs_5000 : List zCt := []
theorem za_5000 : zwin zw_5000 zc_5000.2.2.2.2.2.1 = true := by decide +kernel
theorem z0_5000 : zst0 mi_P zw_5000 [] [] (fun d y as t en => zcal zw_5000 d y as t en zs_5000) zc_5000 zp_5000 zu_5000 224 = true := by decide +kernel
theorem zk_5000 : zu_5000.all (zck mi_P zc_5000.2.1 zw_5000 false [] [] (fun d y as t en => zcal zw_5000 d y as t en zs_5000) zc_5000.2.2.2.1.length zc_5000.2.2.2.1 zc_5000.2.2.2.2.2.1 zp_5000 zu_5000 224) = true := by decide +kernel
theorem zt_5000 {S : Nat × (Nat → Int32)} : zCtr mi_P S zTt zc_5000 := by
  have hc : ∀ c ∈ zs_5000, zCtr mi_P S zTt c := fun c hc => by cases hc
  exact zCtr_of (Om := zTt) (ct := zc_5000) (ps := zp_5000) (fun _ _ _ _ => trivial) rfl hc za_5000 z0_5000 zk_5000
/-- java/lang/String.charAt(I)C -/
def zw_5001 : zW := .leaf (0, [])
def zp_5001 : List (zPo × List (Nat ⊕ (Nat × zL))) := [(([], [], [], some (.inr (.inr (.inr (.inl (0, 255)))))), [])]
def zc_5001 : zCt := (280, 4, [.inr (.inl 1), .inr (.inr (.inr (.inl (0, 127))))], [], [], .leaf (0, 0, 0, .inr 3, []), zw_5001, [], zp_5001.map (fun p => p.1))
def zu_5001 : List zCu := []
def zs_5001 : List zCt := [zc_283000]
theorem za_5001 : zwin zw_5001 zc_5001.2.2.2.2.2.1 = true := by decide +kernel
theorem z0_5001 : zst0 mi_P zw_5001 [] [] (fun d y as t en => zcal zw_5001 d y as t en zs_5001) zc_5001 zp_5001 zu_5001 256 = true := by decide +kernel
theorem zk_5001 : zu_5001.all (zck mi_P zc_5001.2.1 zw_5001 false [] [] (fun d y as t en => zcal zw_5001 d y as t en zs_5001) zc_5001.2.2.2.1.length zc_5001.2.2.2.1 zc_5001.2.2.2.2.2.1 zp_5001 zu_5001 256) = true := by decide +kernel
theorem zt_5001 {S : Nat × (Nat → Int32)} : zCtr mi_P S zTt zc_5001 := by
  have hc : ∀ c ∈ zs_5001, zCtr mi_P S zTt c := by
    intro c hc
    simp only [zs_5001, List.mem_cons, List.not_mem_nil, or_false] at hc
    rcases hc with rfl
    · exact zt_283000
  exact zCtr_of (Om := zTt) (ct := zc_5001) (ps := zp_5001) (fun _ _ _ _ => trivial) rfl hc za_5001 z0_5001 zk_5001
/-- java/lang/String.indexOf(I)I -/
def zw_5002 : zW := .leaf (0, [])
def zp_5002 : List (zPo × List (Nat ⊕ (Nat × zL))) := [(([], [], [], some (.inr (.inr (.inr (.inl ((-1), 10)))))), [])]
def zc_5002 : zCt := (285, 3, [.inr (.inl 2), zaI], [], [], .leaf (0, 0, 0, .inr 3, []), zw_5002, [], zp_5002.map (fun p => p.1))
def zu_5002 : List zCu := [(([(289, 5, [(5, .inl (0, [(2, 1)])), (4, .inl (0, [(1, 1)])), (0, .inr (.inl 4)), (1, .inl (0, [(0, 1)])), (2, .inl (0, [])), (3, .inl (11, []))], []), (287, 24, [(3, .inl (11, [])), (2, .inl (0, [])), (0, .inr (.inl 4)), (1, .inl (0, [(0, 1)]))], []), (286, 10, [(0, .inr (.inl 2)), (1, .inl (0, [(0, 1)])), (2, .inl (0, []))], []), (285, 4, [(0, .inr (.inl 2)), (1, .inl (0, [(0, 1)]))], [])], .leaf (0, 0, 0, .inr 3, []), [(0, 255), ((-128), 127), (0, 11)], [], []), [.inl (0, 1), .inl (0, 4), .inl (0, 5)], (11, [(2, (-1))]))]
def zs_5002 : List zCt := []
theorem za_5002 : zwin zw_5002 zc_5002.2.2.2.2.2.1 = true := by decide +kernel
theorem z0_5002 : zst0 mi_P zw_5002 [] [] (fun d y as t en => zcal zw_5002 d y as t en zs_5002) zc_5002 zp_5002 zu_5002 364 = true := by decide +kernel
theorem zk_5002 : zu_5002.all (zck mi_P zc_5002.2.1 zw_5002 false [] [] (fun d y as t en => zcal zw_5002 d y as t en zs_5002) zc_5002.2.2.2.1.length zc_5002.2.2.2.1 zc_5002.2.2.2.2.2.1 zp_5002 zu_5002 364) = true := by decide +kernel
theorem zt_5002 {S : Nat × (Nat → Int32)} : zCtr mi_P S zTt zc_5002 := by
  have hc : ∀ c ∈ zs_5002, zCtr mi_P S zTt c := fun c hc => by cases hc
  exact zCtr_of (Om := zTt) (ct := zc_5002) (ps := zp_5002) (fun _ _ _ _ => trivial) rfl hc za_5002 z0_5002 zk_5002
/-- L$Tokens.wordKind()I -/
def zw_5003 : zW := .leaf (0, [])
def zp_5003 : List (zPo × List (Nat ⊕ (Nat × zL))) := [(([], [], [], some (zaI)), [])]
def zc_5003 : zCt := (25, 5, [.inr (.inl 22)], [], [], .branch 22 (.leaf (8, 1, 1600, .inl ((-128), 127), [])) (.leaf (23, 105, 6, .inr 3, [((1, []), .inr (.inr (.inr (.inl (0, 1600))))), ((2, []), .inr (.inr (.inr (.inl (0, 1600))))), ((4, []), .inr (.inl 7))])), zw_5003, [], zp_5003.map (fun p => p.1))
def zu_5003 : List zCu := [(([(25, 8, [(4, .inl (0, [(0, 1)])), (3, .inl (0, [(2, 1)])), (2, .inl (0, [(1, 1)])), (1, .inl (0, [(3, 1)])), (0, .inr (.inl 22))], [])], .branch 22 (.leaf (8, 1, 1600, .inl ((-128), 127), [])) (.leaf (23, 105, 6, .inr 3, [((1, []), .inr (.inr (.inr (.inl (0, 1600))))), ((2, []), .inr (.inr (.inr (.inl (0, 1600))))), ((4, []), .inr (.inl 7))])), [(0, 128), (0, 128), (0, 1), ((-2147483648), 2147483647)], [(0, [(0, (-1)), (1, 1)])], []), [.inl (0, 4), .inl (0, 2), .inl (0, 3), .inl (0, 1)], (128, [(0, (-1))]))]
def zs_5003 : List zCt := [zc_5000, zc_5001]
theorem za_5003 : zwin zw_5003 zc_5003.2.2.2.2.2.1 = true := by decide +kernel
theorem z0_5003 : zst0 mi_P zw_5003 [] [] (fun d y as t en => zcal zw_5003 d y as t en zs_5003) zc_5003 zp_5003 zu_5003 358 = true := by decide +kernel
theorem zk_5003 : zu_5003.all (zck mi_P zc_5003.2.1 zw_5003 false [] [] (fun d y as t en => zcal zw_5003 d y as t en zs_5003) zc_5003.2.2.2.1.length zc_5003.2.2.2.1 zc_5003.2.2.2.2.2.1 zp_5003 zu_5003 358) = true := by decide +kernel
theorem zt_5003 {S : Nat × (Nat → Int32)} : zCtr mi_P S zTt zc_5003 := by
  have hc : ∀ c ∈ zs_5003, zCtr mi_P S zTt c := by
    intro c hc
    simp only [zs_5003, List.mem_cons, List.not_mem_nil, or_false] at hc
    rcases hc with rfl | rfl
    · exact zt_5000
    · exact zt_5001
  exact zCtr_of (Om := zTt) (ct := zc_5003) (ps := zp_5003) (fun _ _ _ _ => trivial) rfl hc za_5003 z0_5003 zk_5003
/-- L$Tokens.readNumber()V -/
def zw_5004 : zW := .leaf (23, [0, 2, 3])
def zp_5004 : List (zPo × List (Nat ⊕ (Nat × zL))) := [(([], [], [(22, [((0, []), zaI), ((2, []), .inr (.inr (.inr (.inl (0, 1600))))), ((3, []), zaI)])], none), [])]
def zc_5004 : zCt := (27, 1, [.inr (.inl 22)], [], [], .branch 22 (.leaf (8, 1, 1600, .inl ((-128), 127), [])) (.leaf (23, 105, 6, .inr 3, [((0, []), zaI), ((1, []), .inr (.inr (.inr (.inl (0, 1600))))), ((2, []), .inr (.inr (.inr (.inl (0, 1600))))), ((3, []), zaI), ((4, []), .inr (.inl 7)), ((5, []), .inr (.inr (.inr (.inl (0, 1600)))))])), zw_5004, [], zp_5004.map (fun p => p.1))
def zu_5004 : List zCu := [(([(27, 3, [(0, .inr (.inl 22))], [])], .branch 22 (.leaf (8, 1, 1600, .inl ((-128), 127), [])) (.leaf (23, 105, 6, .inr 3, [((0, []), zaI), ((1, []), .inr (.inr (.inr (.inl (0, 1600))))), ((2, []), .inl (0, [(0, 1)])), ((4, []), .inr (.inl 7)), ((5, []), .inr (.inr (.inr (.inl (0, 1600))))), ((3, []), zaI)])), [(0, 1600)], [], []), [.inr (.inr (22, (2, [])))], (1600, [(0, (-1))]))]
def zs_5004 : List zCt := []
theorem za_5004 : zwin zw_5004 zc_5004.2.2.2.2.2.1 = true := by decide +kernel
theorem z0_5004 : zst0 mi_P zw_5004 [] [] (fun d y as t en => zcal zw_5004 d y as t en zs_5004) zc_5004 zp_5004 zu_5004 610 = true := by decide +kernel
theorem zk_5004 : zu_5004.all (zck mi_P zc_5004.2.1 zw_5004 false [] [] (fun d y as t en => zcal zw_5004 d y as t en zs_5004) zc_5004.2.2.2.1.length zc_5004.2.2.2.1 zc_5004.2.2.2.2.2.1 zp_5004 zu_5004 610) = true := by decide +kernel
theorem zt_5004 {S : Nat × (Nat → Int32)} : zCtr mi_P S zTt zc_5004 := by
  have hc : ∀ c ∈ zs_5004, zCtr mi_P S zTt c := fun c hc => by cases hc
  exact zCtr_of (Om := zTt) (ct := zc_5004) (ps := zp_5004) (fun _ _ _ _ => trivial) rfl hc za_5004 z0_5004 zk_5004
/-- L$Tokens.advance()V -/
def zw_5005 : zW := .leaf (23, [0, 1, 2, 3])
def zp_5005 : List (zPo × List (Nat ⊕ (Nat × zL))) := [(([], [], [(22, [((0, []), zaI), ((1, []), .inr (.inr (.inr (.inl (0, 1600))))), ((2, []), .inr (.inr (.inr (.inl (0, 1600))))), ((3, []), zaI)])], none), [])]
def zc_5005 : zCt := (23, 6, [.inr (.inl 22)], [], [], .branch 22 (.leaf (8, 1, 1600, .inl ((-128), 127), [])) (.leaf (23, 105, 6, .inr 3, [((0, []), zaI), ((1, []), .inr (.inr (.inr (.inl (0, 1600))))), ((2, []), .inr (.inr (.inr (.inl (0, 1600))))), ((3, []), zaI), ((4, []), .inr (.inl 7)), ((5, []), .inr (.inr (.inr (.inl (0, 1600)))))])), zw_5005, [], zp_5005.map (fun p => p.1))
def zu_5005 : List zCu := [(([(23, 4, [(0, .inr (.inl 22))], [])], .branch 22 (.leaf (8, 1, 1600, .inl ((-128), 127), [])) (.leaf (23, 105, 6, .inr 3, [((0, []), zaI), ((3, []), zaI), ((4, []), .inr (.inl 7)), ((5, []), .inr (.inr (.inr (.inl (0, 1600))))), ((2, []), .inl (0, [(0, 1)])), ((1, []), .inl (0, [(1, 1)]))])), [(0, 1600), (0, 1600)], [], []), [.inr (.inr (22, (2, []))), .inr (.inr (22, (1, [])))], (3201, [(1, (-1))])), (([(23, 34, [(0, .inr (.inl 22))], [])], .branch 22 (.leaf (8, 1, 1600, .inl ((-128), 127), [])) (.leaf (23, 105, 6, .inr 3, [((0, []), zaI), ((3, []), zaI), ((4, []), .inr (.inl 7)), ((1, []), .inl (0, [(0, 1)])), ((5, []), .inr (.inr (.inr (.inl (0, 1600))))), ((2, []), .inl (0, [(1, 1)]))])), [(0, 1600), (0, 1600)], [], []), [.inr (.inr (22, (1, []))), .inr (.inr (22, (2, [])))], (1600, [(1, (-1))]))]
def zs_5005 : List zCt := [zc_5002, zc_5004, zc_5003]
theorem za_5005 : zwin zw_5005 zc_5005.2.2.2.2.2.1 = true := by decide +kernel
theorem z0_5005 : zst0 mi_P zw_5005 [] [] (fun d y as t en => zcal zw_5005 d y as t en zs_5005) zc_5005 zp_5005 zu_5005 994 = true := by decide +kernel
theorem zk_5005 : zu_5005.all (zck mi_P zc_5005.2.1 zw_5005 false [] [] (fun d y as t en => zcal zw_5005 d y as t en zs_5005) zc_5005.2.2.2.1.length zc_5005.2.2.2.1 zc_5005.2.2.2.2.2.1 zp_5005 zu_5005 994) = true := by decide +kernel
theorem zt_5005 {S : Nat × (Nat → Int32)} : zCtr mi_P S zTt zc_5005 := by
  have hc : ∀ c ∈ zs_5005, zCtr mi_P S zTt c := by
    intro c hc
    simp only [zs_5005, List.mem_cons, List.not_mem_nil, or_false] at hc
    rcases hc with rfl | rfl | rfl
    · exact zt_5002
    · exact zt_5004
    · exact zt_5003
  exact zCtr_of (Om := zTt) (ct := zc_5005) (ps := zp_5005) (fun _ _ _ _ => trivial) rfl hc za_5005 z0_5005 zk_5005
/-- L$Tokens.isSameAsNow(II)Z -/
def zw_5006 : zW := .leaf (0, [])
def zp_5006 : List (zPo × List (Nat ⊕ (Nat × zL))) := [(([], [], [], some (.inr (.inr (.inr (.inl (0, 1)))))), [])]
def zc_5006 : zCt := (37, 0, [.inr (.inl 22), .inr (.inr (.inr (.inl (0, 1600)))), .inr (.inr (.inr (.inl (0, 1600))))], [], [], .branch 22 (.leaf (8, 1, 1600, .inl ((-128), 127), [])) (.leaf (23, 105, 6, .inr 3, [((1, []), .inr (.inr (.inr (.inl (0, 1600))))), ((2, []), .inr (.inr (.inr (.inl (0, 1600))))), ((4, []), .inr (.inl 7)), ((5, []), .inr (.inr (.inr (.inl (0, 1600)))))])), zw_5006, [], zp_5006.map (fun p => p.1))
def zu_5006 : List zCu := [(([(37, 19, [(3, .inl (0, [(5, 1)])), (0, .inr (.inl 22)), (1, .inl (0, [(0, 1)])), (2, .inl (0, [(1, 1)]))], [])], .branch 22 (.leaf (8, 1, 1600, .inl ((-128), 127), [])) (.leaf (23, 105, 6, .inr 3, [((4, []), .inr (.inl 7)), ((5, []), .inl (0, [(2, 1)])), ((2, []), .inl (0, [(3, 1)])), ((1, []), .inl (0, [(4, 1)]))])), [(0, 1600), (0, 1600), (0, 1600), (0, 1600), (0, 1600), (0, 1600)], [(0, [(1, 1), (2, (-1))]), (0, [(0, (-1)), (1, 1), (3, (-1)), (4, 1)]), (0, [(0, 1), (1, (-1)), (3, 1), (4, (-1))]), (0, [(0, 1), (5, (-1))])], []), [.inl (0, 1), .inl (0, 2), .inr (.inr (22, (5, []))), .inr (.inr (22, (2, []))), .inr (.inr (22, (1, []))), .inl (0, 3)], (1600, [(5, (-1))]))]
def zs_5006 : List zCt := []
theorem za_5006 : zwin zw_5006 zc_5006.2.2.2.2.2.1 = true := by decide +kernel
theorem z0_5006 : zst0 mi_P zw_5006 [] [] (fun d y as t en => zcal zw_5006 d y as t en zs_5006) zc_5006 zp_5006 zu_5006 242 = true := by decide +kernel
theorem zk_5006 : zu_5006.all (zck mi_P zc_5006.2.1 zw_5006 false [] [] (fun d y as t en => zcal zw_5006 d y as t en zs_5006) zc_5006.2.2.2.1.length zc_5006.2.2.2.1 zc_5006.2.2.2.2.2.1 zp_5006 zu_5006 242) = true := by decide +kernel
theorem zt_5006 {S : Nat × (Nat → Int32)} : zCtr mi_P S zTt zc_5006 := by
  have hc : ∀ c ∈ zs_5006, zCtr mi_P S zTt c := fun c hc => by cases hc
  exact zCtr_of (Om := zTt) (ct := zc_5006) (ps := zp_5006) (fun _ _ _ _ => trivial) rfl hc za_5006 z0_5006 zk_5006
/-- L$Reader.fail(I)V -/
def zw_5007 : zW := .branch 22 (.leaf (9, [1, 2])) (.leaf (23, [0, 2]))
def zp_5007 : List (zPo × List (Nat ⊕ (Nat × zL))) := [(([], [], [(8, [((1, []), zaI), ((2, []), zaI)]), (22, [((0, []), zaI), ((2, []), .inr (.inr (.inr (.inl (0, 1600)))))])], none), [])]
def zc_5007 : zCt := (31, 1, [.inr (.inl 8), zaI], [], [], .branch 22 (.leaf (9, 101, 8, .inr 3, [((1, []), zaI), ((2, []), zaI), ((3, []), .inr (.inl 22))])) (.leaf (23, 105, 6, .inr 3, [((0, []), zaI), ((1, []), .inr (.inr (.inr (.inl (0, 1600))))), ((2, []), .inr (.inr (.inr (.inl (0, 1600))))), ((5, []), .inr (.inr (.inr (.inl (0, 1600)))))])), zw_5007, [], zp_5007.map (fun p => p.1))
def zu_5007 : List zCu := []
def zs_5007 : List zCt := []
theorem za_5007 : zwin zw_5007 zc_5007.2.2.2.2.2.1 = true := by decide +kernel
theorem z0_5007 : zst0 mi_P zw_5007 [] [] (fun d y as t en => zcal zw_5007 d y as t en zs_5007) zc_5007 zp_5007 zu_5007 266 = true := by decide +kernel
theorem zk_5007 : zu_5007.all (zck mi_P zc_5007.2.1 zw_5007 false [] [] (fun d y as t en => zcal zw_5007 d y as t en zs_5007) zc_5007.2.2.2.1.length zc_5007.2.2.2.1 zc_5007.2.2.2.2.2.1 zp_5007 zu_5007 266) = true := by decide +kernel
theorem zt_5007 {S : Nat × (Nat → Int32)} : zCtr mi_P S zTt zc_5007 := by
  have hc : ∀ c ∈ zs_5007, zCtr mi_P S zTt c := fun c hc => by cases hc
  exact zCtr_of (Om := zTt) (ct := zc_5007) (ps := zp_5007) (fun _ _ _ _ => trivial) rfl hc za_5007 z0_5007 zk_5007
/-- L$Reader.expect(I)V -/
def zw_5008 : zW := .branch 22 (.leaf (9, [1, 2])) (.leaf (23, [0, 1, 2, 3]))
def zp_5008 : List (zPo × List (Nat ⊕ (Nat × zL))) := [(([], [], [(8, [((1, []), zaI), ((2, []), zaI)]), (22, [((0, []), zaI), ((1, []), .inr (.inr (.inr (.inl (0, 1600))))), ((2, []), .inr (.inr (.inr (.inl (0, 1600))))), ((3, []), zaI)])], none), [])]
def zc_5008 : zCt := (38, 7, [.inr (.inl 8), zaI], [], [], .branch 8 (.leaf (8, 1, 1600, .inl ((-128), 127), [])) (.branch 22 (.leaf (9, 101, 8, .inr 3, [((1, []), zaI), ((2, []), zaI), ((3, []), .inr (.inl 22))])) (.leaf (23, 105, 6, .inr 3, [((0, []), zaI), ((1, []), .inr (.inr (.inr (.inl (0, 1600))))), ((2, []), .inr (.inr (.inr (.inl (0, 1600))))), ((3, []), zaI), ((4, []), .inr (.inl 7)), ((5, []), .inr (.inr (.inr (.inl (0, 1600)))))]))), zw_5008, [], zp_5008.map (fun p => p.1))
def zu_5008 : List zCu := []
def zs_5008 : List zCt := [zc_5007, zc_5005]
theorem za_5008 : zwin zw_5008 zc_5008.2.2.2.2.2.1 = true := by decide +kernel
theorem z0_5008 : zst0 mi_P zw_5008 [] [] (fun d y as t en => zcal zw_5008 d y as t en zs_5008) zc_5008 zp_5008 zu_5008 248 = true := by decide +kernel
theorem zk_5008 : zu_5008.all (zck mi_P zc_5008.2.1 zw_5008 false [] [] (fun d y as t en => zcal zw_5008 d y as t en zs_5008) zc_5008.2.2.2.1.length zc_5008.2.2.2.1 zc_5008.2.2.2.2.2.1 zp_5008 zu_5008 248) = true := by decide +kernel
theorem zt_5008 {S : Nat × (Nat → Int32)} : zCtr mi_P S zTt zc_5008 := by
  have hc : ∀ c ∈ zs_5008, zCtr mi_P S zTt c := by
    intro c hc
    simp only [zs_5008, List.mem_cons, List.not_mem_nil, or_false] at hc
    rcases hc with rfl | rfl
    · exact zt_5007
    · exact zt_5005
  exact zCtr_of (Om := zTt) (ct := zc_5008) (ps := zp_5008) (fun _ _ _ _ => trivial) rfl hc za_5008 z0_5008 zk_5008
/-- L$Reader.numberIn(II)I -/
def zw_5009 : zW := .branch 22 (.leaf (9, [1, 2])) (.leaf (23, [0, 1, 2, 3]))
def zp_5009 : List (zPo × List (Nat ⊕ (Nat × zL))) := [(([], [], [(8, [((1, []), zaI), ((2, []), zaI)]), (22, [((0, []), zaI), ((1, []), .inr (.inr (.inr (.inl (0, 1600))))), ((2, []), .inr (.inr (.inr (.inl (0, 1600))))), ((3, []), zaI)])], some (zaI)), [])]
def zc_5009 : zCt := (33, 7, [.inr (.inl 8), zaI, zaI], [], [], .branch 8 (.leaf (8, 1, 1600, .inl ((-128), 127), [])) (.branch 22 (.leaf (9, 101, 8, .inr 3, [((1, []), zaI), ((2, []), zaI), ((3, []), .inr (.inl 22))])) (.leaf (23, 105, 6, .inr 3, [((0, []), zaI), ((1, []), .inr (.inr (.inr (.inl (0, 1600))))), ((2, []), .inr (.inr (.inr (.inl (0, 1600))))), ((3, []), zaI), ((4, []), .inr (.inl 7)), ((5, []), .inr (.inr (.inr (.inl (0, 1600)))))]))), zw_5009, [], zp_5009.map (fun p => p.1))
def zu_5009 : List zCu := []
def zs_5009 : List zCt := [zc_5007, zc_5005]
theorem za_5009 : zwin zw_5009 zc_5009.2.2.2.2.2.1 = true := by decide +kernel
theorem z0_5009 : zst0 mi_P zw_5009 [] [] (fun d y as t en => zcal zw_5009 d y as t en zs_5009) zc_5009 zp_5009 zu_5009 288 = true := by decide +kernel
theorem zk_5009 : zu_5009.all (zck mi_P zc_5009.2.1 zw_5009 false [] [] (fun d y as t en => zcal zw_5009 d y as t en zs_5009) zc_5009.2.2.2.1.length zc_5009.2.2.2.1 zc_5009.2.2.2.2.2.1 zp_5009 zu_5009 288) = true := by decide +kernel
theorem zt_5009 {S : Nat × (Nat → Int32)} : zCtr mi_P S zTt zc_5009 := by
  have hc : ∀ c ∈ zs_5009, zCtr mi_P S zTt c := by
    intro c hc
    simp only [zs_5009, List.mem_cons, List.not_mem_nil, or_false] at hc
    rcases hc with rfl | rfl
    · exact zt_5007
    · exact zt_5005
  exact zCtr_of (Om := zTt) (ct := zc_5009) (ps := zp_5009) (fun _ _ _ _ => trivial) rfl hc za_5009 z0_5009 zk_5009
/-- L$Reader.readUnit(I)V -/
def zw_5010 : zW := .branch 16 (.branch 13 (.leaf (9, [1, 2, 5])) (.leaf (14, [1, 3]))) (.branch 22 (.leaf (17, [0])) (.leaf (23, [0, 1, 2, 3])))
def zp_5010 : List (zPo × List (Nat ⊕ (Nat × zL))) := [(([], [], [(8, [((1, []), zaI), ((2, []), zaI), ((5, []), .inr (.inr (.inr (.inl (0, 30)))))]), (13, [((1, []), zaI), ((3, []), .inr (.inr (.inr (.inl (0, 540)))))]), (16, []), (22, [((0, []), zaI), ((1, []), .inr (.inr (.inr (.inl (0, 1600))))), ((2, []), .inr (.inr (.inr (.inl (0, 1600))))), ((3, []), zaI)])], none), [])]
def zc_5010 : zCt := (45, 7, [.inr (.inl 8), .inl (7, [])], [], [], .branch 13 (.branch 8 (.leaf (8, 1, 1600, .inl ((-128), 127), [])) (.branch 9 (.leaf (9, 101, 8, .inr 3, [((0, []), .inr (.inl 9)), ((1, []), zaI), ((2, []), zaI), ((3, []), .inr (.inl 22)), ((5, []), .inr (.inr (.inr (.inl (0, 30)))))])) (.leaf (10, 102, 11, .inr 3, [((1, []), .inr (.inl 13))])))) (.branch 16 (.leaf (14, 104, 7, .inr 3, [((1, []), zaI), ((3, []), .inr (.inr (.inr (.inl (0, 540))))), ((5, []), .inr (.inl 16))])) (.branch 22 (.leaf (17, 0, 540, .inr 1, [])) (.leaf (23, 105, 6, .inr 3, [((0, []), zaI), ((1, []), .inr (.inr (.inr (.inl (0, 1600))))), ((2, []), .inr (.inr (.inr (.inl (0, 1600))))), ((3, []), zaI), ((4, []), .inr (.inl 7)), ((5, []), .inr (.inr (.inr (.inl (0, 1600)))))])))), zw_5010, [], zp_5010.map (fun p => p.1))
def zu_5010 : List zCu := []
def zs_5010 : List zCt := [zc_5007, zc_5005]
theorem za_5010 : zwin zw_5010 zc_5010.2.2.2.2.2.1 = true := by decide +kernel
theorem z0_5010 : zst0 mi_P zw_5010 [] [] (fun d y as t en => zcal zw_5010 d y as t en zs_5010) zc_5010 zp_5010 zu_5010 764 = true := by decide +kernel
theorem zk_5010 : zu_5010.all (zck mi_P zc_5010.2.1 zw_5010 false [] [] (fun d y as t en => zcal zw_5010 d y as t en zs_5010) zc_5010.2.2.2.1.length zc_5010.2.2.2.1 zc_5010.2.2.2.2.2.1 zp_5010 zu_5010 764) = true := by decide +kernel
theorem zt_5010 {S : Nat × (Nat → Int32)} : zCtr mi_P S zTt zc_5010 := by
  have hc : ∀ c ∈ zs_5010, zCtr mi_P S zTt c := by
    intro c hc
    simp only [zs_5010, List.mem_cons, List.not_mem_nil, or_false] at hc
    rcases hc with rfl | rfl
    · exact zt_5007
    · exact zt_5005
  exact zCtr_of (Om := zTt) (ct := zc_5010) (ps := zp_5010) (fun _ _ _ _ => trivial) rfl hc za_5010 z0_5010 zk_5010
/-- L$Reader.readTerm(I)V -/
def zw_5011 : zW := .branch 16 (.branch 13 (.leaf (9, [1, 2, 5])) (.leaf (14, [1, 3]))) (.branch 22 (.leaf (17, [0])) (.leaf (23, [0, 1, 2, 3])))
def zp_5011 : List (zPo × List (Nat ⊕ (Nat × zL))) := [(([], [], [(8, [((1, []), zaI), ((2, []), zaI), ((5, []), .inr (.inr (.inr (.inl (0, 30)))))]), (13, [((1, []), zaI), ((3, []), .inr (.inr (.inr (.inl (0, 540)))))]), (16, []), (22, [((0, []), zaI), ((1, []), .inr (.inr (.inr (.inl (0, 1600))))), ((2, []), .inr (.inr (.inr (.inl (0, 1600))))), ((3, []), zaI)])], none), [])]
def zc_5011 : zCt := (44, 8, [.inr (.inl 8), .inl (7, [])], [], [], .branch 13 (.branch 8 (.leaf (8, 1, 1600, .inl ((-128), 127), [])) (.branch 9 (.leaf (9, 101, 8, .inr 3, [((0, []), .inr (.inl 9)), ((1, []), zaI), ((2, []), zaI), ((3, []), .inr (.inl 22)), ((5, []), .inr (.inr (.inr (.inl (0, 30)))))])) (.leaf (10, 102, 11, .inr 3, [((1, []), .inr (.inl 13))])))) (.branch 16 (.leaf (14, 104, 7, .inr 3, [((1, []), zaI), ((3, []), .inr (.inr (.inr (.inl (0, 540))))), ((5, []), .inr (.inl 16))])) (.branch 22 (.leaf (17, 0, 540, .inr 1, [])) (.leaf (23, 105, 6, .inr 3, [((0, []), zaI), ((1, []), .inr (.inr (.inr (.inl (0, 1600))))), ((2, []), .inr (.inr (.inr (.inl (0, 1600))))), ((3, []), zaI), ((4, []), .inr (.inl 7)), ((5, []), .inr (.inr (.inr (.inl (0, 1600)))))])))), zw_5011, [], zp_5011.map (fun p => p.1))
def zu_5011 : List zCu := [(([(44, 5, [(2, .inl (0, [(0, 1)])), (0, .inr (.inl 8)), (1, .inl (7, []))], [])], .branch 13 (.branch 8 (.leaf (8, 1, 1600, .inl ((-128), 127), [])) (.branch 9 (.leaf (9, 101, 8, .inr 3, [((0, []), .inr (.inl 9)), ((3, []), .inr (.inl 22)), ((1, []), zaI), ((2, []), zaI), ((5, []), .inr (.inr (.inr (.inl (0, 30)))))])) (.leaf (10, 102, 11, .inr 3, [((1, []), .inr (.inl 13))])))) (.branch 16 (.leaf (14, 104, 7, .inr 3, [((5, []), .inr (.inl 16)), ((1, []), zaI), ((3, []), .inr (.inr (.inr (.inl (0, 540)))))])) (.branch 22 (.leaf (17, 0, 540, .inr 1, [])) (.leaf (23, 105, 6, .inr 3, [((4, []), .inr (.inl 7)), ((5, []), .inr (.inr (.inr (.inl (0, 1600))))), ((0, []), zaI), ((1, []), .inr (.inr (.inr (.inl (0, 1600))))), ((2, []), .inr (.inr (.inr (.inl (0, 1600))))), ((3, []), zaI)])))), [(0, 30)], [], []), [.inl (0, 2)], (30, [(0, (-1))]))]
def zs_5011 : List zCt := [zc_5010, zc_5005]
theorem za_5011 : zwin zw_5011 zc_5011.2.2.2.2.2.1 = true := by decide +kernel
theorem z0_5011 : zst0 mi_P zw_5011 [] [] (fun d y as t en => zcal zw_5011 d y as t en zs_5011) zc_5011 zp_5011 zu_5011 548 = true := by decide +kernel
theorem zk_5011 : zu_5011.all (zck mi_P zc_5011.2.1 zw_5011 false [] [] (fun d y as t en => zcal zw_5011 d y as t en zs_5011) zc_5011.2.2.2.1.length zc_5011.2.2.2.1 zc_5011.2.2.2.2.2.1 zp_5011 zu_5011 548) = true := by decide +kernel
theorem zt_5011 {S : Nat × (Nat → Int32)} : zCtr mi_P S zTt zc_5011 := by
  have hc : ∀ c ∈ zs_5011, zCtr mi_P S zTt c := by
    intro c hc
    simp only [zs_5011, List.mem_cons, List.not_mem_nil, or_false] at hc
    rcases hc with rfl | rfl
    · exact zt_5010
    · exact zt_5005
  exact zCtr_of (Om := zTt) (ct := zc_5011) (ps := zp_5011) (fun _ _ _ _ => trivial) rfl hc za_5011 z0_5011 zk_5011
/-- L$Reader.readSum(I)V -/
def zw_5012 : zW := .branch 16 (.branch 13 (.leaf (9, [1, 2, 5])) (.leaf (14, [1, 3]))) (.branch 22 (.leaf (17, [0])) (.leaf (23, [0, 1, 2, 3])))
def zp_5012 : List (zPo × List (Nat ⊕ (Nat × zL))) := [(([], [], [(8, [((1, []), zaI), ((2, []), zaI), ((5, []), .inr (.inr (.inr (.inl (0, 30)))))]), (13, [((1, []), zaI), ((3, []), .inr (.inr (.inr (.inl (0, 540)))))]), (16, []), (22, [((0, []), zaI), ((1, []), .inr (.inr (.inr (.inl (0, 1600))))), ((2, []), .inr (.inr (.inr (.inl (0, 1600))))), ((3, []), zaI)])], none), [])]
def zc_5012 : zCt := (43, 9, [.inr (.inl 8), .inl (7, [])], [], [], .branch 13 (.branch 8 (.leaf (8, 1, 1600, .inl ((-128), 127), [])) (.branch 9 (.leaf (9, 101, 8, .inr 3, [((0, []), .inr (.inl 9)), ((1, []), zaI), ((2, []), zaI), ((3, []), .inr (.inl 22)), ((5, []), .inr (.inr (.inr (.inl (0, 30)))))])) (.leaf (10, 102, 11, .inr 3, [((1, []), .inr (.inl 13))])))) (.branch 16 (.leaf (14, 104, 7, .inr 3, [((1, []), zaI), ((3, []), .inr (.inr (.inr (.inl (0, 540))))), ((5, []), .inr (.inl 16))])) (.branch 22 (.leaf (17, 0, 540, .inr 1, [])) (.leaf (23, 105, 6, .inr 3, [((0, []), zaI), ((1, []), .inr (.inr (.inr (.inl (0, 1600))))), ((2, []), .inr (.inr (.inr (.inl (0, 1600))))), ((3, []), zaI), ((4, []), .inr (.inl 7)), ((5, []), .inr (.inr (.inr (.inl (0, 1600)))))])))), zw_5012, [], zp_5012.map (fun p => p.1))
def zu_5012 : List zCu := [(([(43, 5, [(2, .inl (0, [(0, 1)])), (0, .inr (.inl 8)), (1, .inl (7, []))], [])], .branch 13 (.branch 8 (.leaf (8, 1, 1600, .inl ((-128), 127), [])) (.branch 9 (.leaf (9, 101, 8, .inr 3, [((0, []), .inr (.inl 9)), ((3, []), .inr (.inl 22)), ((1, []), zaI), ((2, []), zaI), ((5, []), .inr (.inr (.inr (.inl (0, 30)))))])) (.leaf (10, 102, 11, .inr 3, [((1, []), .inr (.inl 13))])))) (.branch 16 (.leaf (14, 104, 7, .inr 3, [((5, []), .inr (.inl 16)), ((1, []), zaI), ((3, []), .inr (.inr (.inr (.inl (0, 540)))))])) (.branch 22 (.leaf (17, 0, 540, .inr 1, [])) (.leaf (23, 105, 6, .inr 3, [((4, []), .inr (.inl 7)), ((5, []), .inr (.inr (.inr (.inl (0, 1600))))), ((0, []), zaI), ((1, []), .inr (.inr (.inr (.inl (0, 1600))))), ((2, []), .inr (.inr (.inr (.inl (0, 1600))))), ((3, []), zaI)])))), [(0, 30)], [], []), [.inl (0, 2)], (30, [(0, (-1))]))]
def zs_5012 : List zCt := [zc_5011, zc_5005]
theorem za_5012 : zwin zw_5012 zc_5012.2.2.2.2.2.1 = true := by decide +kernel
theorem z0_5012 : zst0 mi_P zw_5012 [] [] (fun d y as t en => zcal zw_5012 d y as t en zs_5012) zc_5012 zp_5012 zu_5012 408 = true := by decide +kernel
theorem zk_5012 : zu_5012.all (zck mi_P zc_5012.2.1 zw_5012 false [] [] (fun d y as t en => zcal zw_5012 d y as t en zs_5012) zc_5012.2.2.2.1.length zc_5012.2.2.2.1 zc_5012.2.2.2.2.2.1 zp_5012 zu_5012 408) = true := by decide +kernel
theorem zt_5012 {S : Nat × (Nat → Int32)} : zCtr mi_P S zTt zc_5012 := by
  have hc : ∀ c ∈ zs_5012, zCtr mi_P S zTt c := by
    intro c hc
    simp only [zs_5012, List.mem_cons, List.not_mem_nil, or_false] at hc
    rcases hc with rfl | rfl
    · exact zt_5011
    · exact zt_5005
  exact zCtr_of (Om := zTt) (ct := zc_5012) (ps := zp_5012) (fun _ _ _ _ => trivial) rfl hc za_5012 z0_5012 zk_5012
/-- L$Reader.readRelation(I)V -/
def zw_5013 : zW := .branch 16 (.branch 13 (.leaf (9, [1, 2, 5])) (.leaf (14, [1, 3]))) (.branch 22 (.leaf (17, [0])) (.leaf (23, [0, 1, 2, 3])))
def zp_5013 : List (zPo × List (Nat ⊕ (Nat × zL))) := [(([], [], [(8, [((1, []), zaI), ((2, []), zaI), ((5, []), .inr (.inr (.inr (.inl (0, 30)))))]), (13, [((1, []), zaI), ((3, []), .inr (.inr (.inr (.inl (0, 540)))))]), (16, []), (22, [((0, []), zaI), ((1, []), .inr (.inr (.inr (.inl (0, 1600))))), ((2, []), .inr (.inr (.inr (.inl (0, 1600))))), ((3, []), zaI)])], none), [])]
def zc_5013 : zCt := (42, 10, [.inr (.inl 8), .inl (7, [])], [], [], .branch 13 (.branch 8 (.leaf (8, 1, 1600, .inl ((-128), 127), [])) (.branch 9 (.leaf (9, 101, 8, .inr 3, [((0, []), .inr (.inl 9)), ((1, []), zaI), ((2, []), zaI), ((3, []), .inr (.inl 22)), ((5, []), .inr (.inr (.inr (.inl (0, 30)))))])) (.leaf (10, 102, 11, .inr 3, [((1, []), .inr (.inl 13))])))) (.branch 16 (.leaf (14, 104, 7, .inr 3, [((1, []), zaI), ((3, []), .inr (.inr (.inr (.inl (0, 540))))), ((5, []), .inr (.inl 16))])) (.branch 22 (.leaf (17, 0, 540, .inr 1, [])) (.leaf (23, 105, 6, .inr 3, [((0, []), zaI), ((1, []), .inr (.inr (.inr (.inl (0, 1600))))), ((2, []), .inr (.inr (.inr (.inl (0, 1600))))), ((3, []), zaI), ((4, []), .inr (.inl 7)), ((5, []), .inr (.inr (.inr (.inl (0, 1600)))))])))), zw_5013, [], zp_5013.map (fun p => p.1))
def zu_5013 : List zCu := []
def zs_5013 : List zCt := [zc_5012, zc_5005]
theorem za_5013 : zwin zw_5013 zc_5013.2.2.2.2.2.1 = true := by decide +kernel
theorem z0_5013 : zst0 mi_P zw_5013 [] [] (fun d y as t en => zcal zw_5013 d y as t en zs_5013) zc_5013 zp_5013 zu_5013 470 = true := by decide +kernel
theorem zk_5013 : zu_5013.all (zck mi_P zc_5013.2.1 zw_5013 false [] [] (fun d y as t en => zcal zw_5013 d y as t en zs_5013) zc_5013.2.2.2.1.length zc_5013.2.2.2.1 zc_5013.2.2.2.2.2.1 zp_5013 zu_5013 470) = true := by decide +kernel
theorem zt_5013 {S : Nat × (Nat → Int32)} : zCtr mi_P S zTt zc_5013 := by
  have hc : ∀ c ∈ zs_5013, zCtr mi_P S zTt c := by
    intro c hc
    simp only [zs_5013, List.mem_cons, List.not_mem_nil, or_false] at hc
    rcases hc with rfl | rfl
    · exact zt_5012
    · exact zt_5005
  exact zCtr_of (Om := zTt) (ct := zc_5013) (ps := zp_5013) (fun _ _ _ _ => trivial) rfl hc za_5013 z0_5013 zk_5013
/-- L$Reader.readOne(I)V -/
def zw_5014 : zW := .branch 16 (.branch 13 (.leaf (9, [1, 2, 5])) (.leaf (14, [1, 3]))) (.branch 22 (.leaf (17, [0])) (.leaf (23, [0, 1, 2, 3])))
def zp_5014 : List (zPo × List (Nat ⊕ (Nat × zL))) := [(([], [], [(8, [((1, []), zaI), ((2, []), zaI), ((5, []), .inr (.inr (.inr (.inl (0, 30)))))]), (13, [((1, []), zaI), ((3, []), .inr (.inr (.inr (.inl (0, 540)))))]), (16, []), (22, [((0, []), zaI), ((1, []), .inr (.inr (.inr (.inl (0, 1600))))), ((2, []), .inr (.inr (.inr (.inl (0, 1600))))), ((3, []), zaI)])], none), [])]
def zc_5014 : zCt := (41, 11, [.inr (.inl 8), .inl (7, [])], [], [], .branch 13 (.branch 8 (.leaf (8, 1, 1600, .inl ((-128), 127), [])) (.branch 9 (.leaf (9, 101, 8, .inr 3, [((0, []), .inr (.inl 9)), ((1, []), zaI), ((2, []), zaI), ((3, []), .inr (.inl 22)), ((5, []), .inr (.inr (.inr (.inl (0, 30)))))])) (.leaf (10, 102, 11, .inr 3, [((1, []), .inr (.inl 13))])))) (.branch 16 (.leaf (14, 104, 7, .inr 3, [((1, []), zaI), ((3, []), .inr (.inr (.inr (.inl (0, 540))))), ((5, []), .inr (.inl 16))])) (.branch 22 (.leaf (17, 0, 540, .inr 1, [])) (.leaf (23, 105, 6, .inr 3, [((0, []), zaI), ((1, []), .inr (.inr (.inr (.inl (0, 1600))))), ((2, []), .inr (.inr (.inr (.inl (0, 1600))))), ((3, []), zaI), ((4, []), .inr (.inl 7)), ((5, []), .inr (.inr (.inr (.inl (0, 1600)))))])))), zw_5014, [], zp_5014.map (fun p => p.1))
def zu_5014 : List zCu := []
def zs_5014 : List zCt := [zc_5007, zc_5013]
theorem za_5014 : zwin zw_5014 zc_5014.2.2.2.2.2.1 = true := by decide +kernel
theorem z0_5014 : zst0 mi_P zw_5014 [] [] (fun d y as t en => zcal zw_5014 d y as t en zs_5014) zc_5014 zp_5014 zu_5014 248 = true := by decide +kernel
theorem zk_5014 : zu_5014.all (zck mi_P zc_5014.2.1 zw_5014 false [] [] (fun d y as t en => zcal zw_5014 d y as t en zs_5014) zc_5014.2.2.2.1.length zc_5014.2.2.2.1 zc_5014.2.2.2.2.2.1 zp_5014 zu_5014 248) = true := by decide +kernel
theorem zt_5014 {S : Nat × (Nat → Int32)} : zCtr mi_P S zTt zc_5014 := by
  have hc : ∀ c ∈ zs_5014, zCtr mi_P S zTt c := by
    intro c hc
    simp only [zs_5014, List.mem_cons, List.not_mem_nil, or_false] at hc
    rcases hc with rfl | rfl
    · exact zt_5007
    · exact zt_5013
  exact zCtr_of (Om := zTt) (ct := zc_5014) (ps := zp_5014) (fun _ _ _ _ => trivial) rfl hc za_5014 z0_5014 zk_5014
/-- L$Reader.readAnds(I)V -/
def zw_5015 : zW := .branch 16 (.branch 13 (.leaf (9, [1, 2, 5])) (.leaf (14, [1, 3]))) (.branch 22 (.leaf (17, [0])) (.leaf (23, [0, 1, 2, 3])))
def zp_5015 : List (zPo × List (Nat ⊕ (Nat × zL))) := [(([], [], [(8, [((1, []), zaI), ((2, []), zaI), ((5, []), .inr (.inr (.inr (.inl (0, 30)))))]), (13, [((1, []), zaI), ((3, []), .inr (.inr (.inr (.inl (0, 540)))))]), (16, []), (22, [((0, []), zaI), ((1, []), .inr (.inr (.inr (.inl (0, 1600))))), ((2, []), .inr (.inr (.inr (.inl (0, 1600))))), ((3, []), zaI)])], none), [])]
def zc_5015 : zCt := (40, 12, [.inr (.inl 8), .inl (7, [])], [], [], .branch 13 (.branch 8 (.leaf (8, 1, 1600, .inl ((-128), 127), [])) (.branch 9 (.leaf (9, 101, 8, .inr 3, [((0, []), .inr (.inl 9)), ((1, []), zaI), ((2, []), zaI), ((3, []), .inr (.inl 22)), ((5, []), .inr (.inr (.inr (.inl (0, 30)))))])) (.leaf (10, 102, 11, .inr 3, [((1, []), .inr (.inl 13))])))) (.branch 16 (.leaf (14, 104, 7, .inr 3, [((1, []), zaI), ((3, []), .inr (.inr (.inr (.inl (0, 540))))), ((5, []), .inr (.inl 16))])) (.branch 22 (.leaf (17, 0, 540, .inr 1, [])) (.leaf (23, 105, 6, .inr 3, [((0, []), zaI), ((1, []), .inr (.inr (.inr (.inl (0, 1600))))), ((2, []), .inr (.inr (.inr (.inl (0, 1600))))), ((3, []), zaI), ((4, []), .inr (.inl 7)), ((5, []), .inr (.inr (.inr (.inl (0, 1600)))))])))), zw_5015, [], zp_5015.map (fun p => p.1))
def zu_5015 : List zCu := [(([(40, 5, [(2, .inl (0, [(0, 1)])), (0, .inr (.inl 8)), (1, .inl (7, []))], [])], .branch 13 (.branch 8 (.leaf (8, 1, 1600, .inl ((-128), 127), [])) (.branch 9 (.leaf (9, 101, 8, .inr 3, [((0, []), .inr (.inl 9)), ((3, []), .inr (.inl 22)), ((1, []), zaI), ((2, []), zaI), ((5, []), .inr (.inr (.inr (.inl (0, 30)))))])) (.leaf (10, 102, 11, .inr 3, [((1, []), .inr (.inl 13))])))) (.branch 16 (.leaf (14, 104, 7, .inr 3, [((5, []), .inr (.inl 16)), ((1, []), zaI), ((3, []), .inr (.inr (.inr (.inl (0, 540)))))])) (.branch 22 (.leaf (17, 0, 540, .inr 1, [])) (.leaf (23, 105, 6, .inr 3, [((4, []), .inr (.inl 7)), ((5, []), .inr (.inr (.inr (.inl (0, 1600))))), ((0, []), zaI), ((1, []), .inr (.inr (.inr (.inl (0, 1600))))), ((2, []), .inr (.inr (.inr (.inl (0, 1600))))), ((3, []), zaI)])))), [(0, 30)], [], []), [.inl (0, 2)], (30, [(0, (-1))]))]
def zs_5015 : List zCt := [zc_5014, zc_5005]
theorem za_5015 : zwin zw_5015 zc_5015.2.2.2.2.2.1 = true := by decide +kernel
theorem z0_5015 : zst0 mi_P zw_5015 [] [] (fun d y as t en => zcal zw_5015 d y as t en zs_5015) zc_5015 zp_5015 zu_5015 292 = true := by decide +kernel
theorem zk_5015 : zu_5015.all (zck mi_P zc_5015.2.1 zw_5015 false [] [] (fun d y as t en => zcal zw_5015 d y as t en zs_5015) zc_5015.2.2.2.1.length zc_5015.2.2.2.1 zc_5015.2.2.2.2.2.1 zp_5015 zu_5015 292) = true := by decide +kernel
theorem zt_5015 {S : Nat × (Nat → Int32)} : zCtr mi_P S zTt zc_5015 := by
  have hc : ∀ c ∈ zs_5015, zCtr mi_P S zTt c := by
    intro c hc
    simp only [zs_5015, List.mem_cons, List.not_mem_nil, or_false] at hc
    rcases hc with rfl | rfl
    · exact zt_5014
    · exact zt_5005
  exact zCtr_of (Om := zTt) (ct := zc_5015) (ps := zp_5015) (fun _ _ _ _ => trivial) rfl hc za_5015 z0_5015 zk_5015
/-- L$Reader.readOrs(I)V -/
def zw_5016 : zW := .branch 16 (.branch 13 (.leaf (9, [1, 2, 5])) (.leaf (14, [1, 3]))) (.branch 22 (.leaf (17, [0])) (.leaf (23, [0, 1, 2, 3])))
def zp_5016 : List (zPo × List (Nat ⊕ (Nat × zL))) := [(([], [], [(8, [((1, []), zaI), ((2, []), zaI), ((5, []), .inr (.inr (.inr (.inl (0, 30)))))]), (13, [((1, []), zaI), ((3, []), .inr (.inr (.inr (.inl (0, 540)))))]), (16, []), (22, [((0, []), zaI), ((1, []), .inr (.inr (.inr (.inl (0, 1600))))), ((2, []), .inr (.inr (.inr (.inl (0, 1600))))), ((3, []), zaI)])], none), [])]
def zc_5016 : zCt := (39, 13, [.inr (.inl 8), .inl (7, [])], [], [], .branch 13 (.branch 8 (.leaf (8, 1, 1600, .inl ((-128), 127), [])) (.branch 9 (.leaf (9, 101, 8, .inr 3, [((0, []), .inr (.inl 9)), ((1, []), zaI), ((2, []), zaI), ((3, []), .inr (.inl 22)), ((5, []), .inr (.inr (.inr (.inl (0, 30)))))])) (.leaf (10, 102, 11, .inr 3, [((1, []), .inr (.inl 13))])))) (.branch 16 (.leaf (14, 104, 7, .inr 3, [((1, []), zaI), ((3, []), .inr (.inr (.inr (.inl (0, 540))))), ((5, []), .inr (.inl 16))])) (.branch 22 (.leaf (17, 0, 540, .inr 1, [])) (.leaf (23, 105, 6, .inr 3, [((0, []), zaI), ((1, []), .inr (.inr (.inr (.inl (0, 1600))))), ((2, []), .inr (.inr (.inr (.inl (0, 1600))))), ((3, []), zaI), ((4, []), .inr (.inl 7)), ((5, []), .inr (.inr (.inr (.inl (0, 1600)))))])))), zw_5016, [], zp_5016.map (fun p => p.1))
def zu_5016 : List zCu := [(([(39, 5, [(2, .inl (0, [(0, 1)])), (0, .inr (.inl 8)), (1, .inl (7, []))], [])], .branch 13 (.branch 8 (.leaf (8, 1, 1600, .inl ((-128), 127), [])) (.branch 9 (.leaf (9, 101, 8, .inr 3, [((0, []), .inr (.inl 9)), ((3, []), .inr (.inl 22)), ((1, []), zaI), ((2, []), zaI), ((5, []), .inr (.inr (.inr (.inl (0, 30)))))])) (.leaf (10, 102, 11, .inr 3, [((1, []), .inr (.inl 13))])))) (.branch 16 (.leaf (14, 104, 7, .inr 3, [((5, []), .inr (.inl 16)), ((1, []), zaI), ((3, []), .inr (.inr (.inr (.inl (0, 540)))))])) (.branch 22 (.leaf (17, 0, 540, .inr 1, [])) (.leaf (23, 105, 6, .inr 3, [((4, []), .inr (.inl 7)), ((5, []), .inr (.inr (.inr (.inl (0, 1600))))), ((0, []), zaI), ((1, []), .inr (.inr (.inr (.inl (0, 1600))))), ((2, []), .inr (.inr (.inr (.inl (0, 1600))))), ((3, []), zaI)])))), [(0, 30)], [], []), [.inl (0, 2)], (30, [(0, (-1))]))]
def zs_5016 : List zCt := [zc_5015, zc_5005]
theorem za_5016 : zwin zw_5016 zc_5016.2.2.2.2.2.1 = true := by decide +kernel
theorem z0_5016 : zst0 mi_P zw_5016 [] [] (fun d y as t en => zcal zw_5016 d y as t en zs_5016) zc_5016 zp_5016 zu_5016 292 = true := by decide +kernel
theorem zk_5016 : zu_5016.all (zck mi_P zc_5016.2.1 zw_5016 false [] [] (fun d y as t en => zcal zw_5016 d y as t en zs_5016) zc_5016.2.2.2.1.length zc_5016.2.2.2.1 zc_5016.2.2.2.2.2.1 zp_5016 zu_5016 292) = true := by decide +kernel
theorem zt_5016 {S : Nat × (Nat → Int32)} : zCtr mi_P S zTt zc_5016 := by
  have hc : ∀ c ∈ zs_5016, zCtr mi_P S zTt c := by
    intro c hc
    simp only [zs_5016, List.mem_cons, List.not_mem_nil, or_false] at hc
    rcases hc with rfl | rfl
    · exact zt_5015
    · exact zt_5005
  exact zCtr_of (Om := zTt) (ct := zc_5016) (ps := zp_5016) (fun _ _ _ _ => trivial) rfl hc za_5016 z0_5016 zk_5016
/-- L$Reader.readUnit(I)V -/
def zw_5017 : zW := .branch 16 (.branch 13 (.leaf (9, [1, 2, 5])) (.leaf (14, [1, 3]))) (.branch 22 (.leaf (17, [0])) (.leaf (23, [0, 1, 2, 3])))
def zp_5017 : List (zPo × List (Nat ⊕ (Nat × zL))) := [(([], [], [(8, [((1, []), zaI), ((2, []), zaI), ((5, []), .inr (.inr (.inr (.inl (0, 30)))))]), (13, [((1, []), zaI), ((3, []), .inr (.inr (.inr (.inl (0, 540)))))]), (16, []), (22, [((0, []), zaI), ((1, []), .inr (.inr (.inr (.inl (0, 1600))))), ((2, []), .inr (.inr (.inr (.inl (0, 1600))))), ((3, []), zaI)])], none), [])]
def zc_5017 : zCt := (45, 14, [.inr (.inl 8), .inl (6, [])], [], [], .branch 13 (.branch 8 (.leaf (8, 1, 1600, .inl ((-128), 127), [])) (.branch 9 (.leaf (9, 101, 8, .inr 3, [((0, []), .inr (.inl 9)), ((1, []), zaI), ((2, []), zaI), ((3, []), .inr (.inl 22)), ((5, []), .inr (.inr (.inr (.inl (0, 30)))))])) (.leaf (10, 102, 11, .inr 3, [((1, []), .inr (.inl 13))])))) (.branch 16 (.leaf (14, 104, 7, .inr 3, [((1, []), zaI), ((3, []), .inr (.inr (.inr (.inl (0, 540))))), ((5, []), .inr (.inl 16))])) (.branch 22 (.leaf (17, 0, 540, .inr 1, [])) (.leaf (23, 105, 6, .inr 3, [((0, []), zaI), ((1, []), .inr (.inr (.inr (.inl (0, 1600))))), ((2, []), .inr (.inr (.inr (.inl (0, 1600))))), ((3, []), zaI), ((4, []), .inr (.inl 7)), ((5, []), .inr (.inr (.inr (.inl (0, 1600)))))])))), zw_5017, [], zp_5017.map (fun p => p.1))
def zu_5017 : List zCu := []
def zs_5017 : List zCt := [zc_5007, zc_5005, zc_5016]
theorem za_5017 : zwin zw_5017 zc_5017.2.2.2.2.2.1 = true := by decide +kernel
theorem z0_5017 : zst0 mi_P zw_5017 [] [] (fun d y as t en => zcal zw_5017 d y as t en zs_5017) zc_5017 zp_5017 zu_5017 916 = true := by decide +kernel
theorem zk_5017 : zu_5017.all (zck mi_P zc_5017.2.1 zw_5017 false [] [] (fun d y as t en => zcal zw_5017 d y as t en zs_5017) zc_5017.2.2.2.1.length zc_5017.2.2.2.1 zc_5017.2.2.2.2.2.1 zp_5017 zu_5017 916) = true := by decide +kernel
theorem zt_5017 {S : Nat × (Nat → Int32)} : zCtr mi_P S zTt zc_5017 := by
  have hc : ∀ c ∈ zs_5017, zCtr mi_P S zTt c := by
    intro c hc
    simp only [zs_5017, List.mem_cons, List.not_mem_nil, or_false] at hc
    rcases hc with rfl | rfl | rfl
    · exact zt_5007
    · exact zt_5005
    · exact zt_5016
  exact zCtr_of (Om := zTt) (ct := zc_5017) (ps := zp_5017) (fun _ _ _ _ => trivial) rfl hc za_5017 z0_5017 zk_5017
/-- L$Reader.readTerm(I)V -/
def zw_5018 : zW := .branch 16 (.branch 13 (.leaf (9, [1, 2, 5])) (.leaf (14, [1, 3]))) (.branch 22 (.leaf (17, [0])) (.leaf (23, [0, 1, 2, 3])))
def zp_5018 : List (zPo × List (Nat ⊕ (Nat × zL))) := [(([], [], [(8, [((1, []), zaI), ((2, []), zaI), ((5, []), .inr (.inr (.inr (.inl (0, 30)))))]), (13, [((1, []), zaI), ((3, []), .inr (.inr (.inr (.inl (0, 540)))))]), (16, []), (22, [((0, []), zaI), ((1, []), .inr (.inr (.inr (.inl (0, 1600))))), ((2, []), .inr (.inr (.inr (.inl (0, 1600))))), ((3, []), zaI)])], none), [])]
def zc_5018 : zCt := (44, 15, [.inr (.inl 8), .inl (6, [])], [], [], .branch 13 (.branch 8 (.leaf (8, 1, 1600, .inl ((-128), 127), [])) (.branch 9 (.leaf (9, 101, 8, .inr 3, [((0, []), .inr (.inl 9)), ((1, []), zaI), ((2, []), zaI), ((3, []), .inr (.inl 22)), ((5, []), .inr (.inr (.inr (.inl (0, 30)))))])) (.leaf (10, 102, 11, .inr 3, [((1, []), .inr (.inl 13))])))) (.branch 16 (.leaf (14, 104, 7, .inr 3, [((1, []), zaI), ((3, []), .inr (.inr (.inr (.inl (0, 540))))), ((5, []), .inr (.inl 16))])) (.branch 22 (.leaf (17, 0, 540, .inr 1, [])) (.leaf (23, 105, 6, .inr 3, [((0, []), zaI), ((1, []), .inr (.inr (.inr (.inl (0, 1600))))), ((2, []), .inr (.inr (.inr (.inl (0, 1600))))), ((3, []), zaI), ((4, []), .inr (.inl 7)), ((5, []), .inr (.inr (.inr (.inl (0, 1600)))))])))), zw_5018, [], zp_5018.map (fun p => p.1))
def zu_5018 : List zCu := [(([(44, 5, [(2, .inl (0, [(0, 1)])), (0, .inr (.inl 8)), (1, .inl (6, []))], [])], .branch 13 (.branch 8 (.leaf (8, 1, 1600, .inl ((-128), 127), [])) (.branch 9 (.leaf (9, 101, 8, .inr 3, [((0, []), .inr (.inl 9)), ((3, []), .inr (.inl 22)), ((1, []), zaI), ((2, []), zaI), ((5, []), .inr (.inr (.inr (.inl (0, 30)))))])) (.leaf (10, 102, 11, .inr 3, [((1, []), .inr (.inl 13))])))) (.branch 16 (.leaf (14, 104, 7, .inr 3, [((5, []), .inr (.inl 16)), ((1, []), zaI), ((3, []), .inr (.inr (.inr (.inl (0, 540)))))])) (.branch 22 (.leaf (17, 0, 540, .inr 1, [])) (.leaf (23, 105, 6, .inr 3, [((4, []), .inr (.inl 7)), ((5, []), .inr (.inr (.inr (.inl (0, 1600))))), ((0, []), zaI), ((1, []), .inr (.inr (.inr (.inl (0, 1600))))), ((2, []), .inr (.inr (.inr (.inl (0, 1600))))), ((3, []), zaI)])))), [(0, 30)], [], []), [.inl (0, 2)], (30, [(0, (-1))]))]
def zs_5018 : List zCt := [zc_5017, zc_5005]
theorem za_5018 : zwin zw_5018 zc_5018.2.2.2.2.2.1 = true := by decide +kernel
theorem z0_5018 : zst0 mi_P zw_5018 [] [] (fun d y as t en => zcal zw_5018 d y as t en zs_5018) zc_5018 zp_5018 zu_5018 548 = true := by decide +kernel
theorem zk_5018 : zu_5018.all (zck mi_P zc_5018.2.1 zw_5018 false [] [] (fun d y as t en => zcal zw_5018 d y as t en zs_5018) zc_5018.2.2.2.1.length zc_5018.2.2.2.1 zc_5018.2.2.2.2.2.1 zp_5018 zu_5018 548) = true := by decide +kernel
theorem zt_5018 {S : Nat × (Nat → Int32)} : zCtr mi_P S zTt zc_5018 := by
  have hc : ∀ c ∈ zs_5018, zCtr mi_P S zTt c := by
    intro c hc
    simp only [zs_5018, List.mem_cons, List.not_mem_nil, or_false] at hc
    rcases hc with rfl | rfl
    · exact zt_5017
    · exact zt_5005
  exact zCtr_of (Om := zTt) (ct := zc_5018) (ps := zp_5018) (fun _ _ _ _ => trivial) rfl hc za_5018 z0_5018 zk_5018
/-- L$Reader.readSum(I)V -/
def zw_5019 : zW := .branch 16 (.branch 13 (.leaf (9, [1, 2, 5])) (.leaf (14, [1, 3]))) (.branch 22 (.leaf (17, [0])) (.leaf (23, [0, 1, 2, 3])))
def zp_5019 : List (zPo × List (Nat ⊕ (Nat × zL))) := [(([], [], [(8, [((1, []), zaI), ((2, []), zaI), ((5, []), .inr (.inr (.inr (.inl (0, 30)))))]), (13, [((1, []), zaI), ((3, []), .inr (.inr (.inr (.inl (0, 540)))))]), (16, []), (22, [((0, []), zaI), ((1, []), .inr (.inr (.inr (.inl (0, 1600))))), ((2, []), .inr (.inr (.inr (.inl (0, 1600))))), ((3, []), zaI)])], none), [])]
def zc_5019 : zCt := (43, 16, [.inr (.inl 8), .inl (6, [])], [], [], .branch 13 (.branch 8 (.leaf (8, 1, 1600, .inl ((-128), 127), [])) (.branch 9 (.leaf (9, 101, 8, .inr 3, [((0, []), .inr (.inl 9)), ((1, []), zaI), ((2, []), zaI), ((3, []), .inr (.inl 22)), ((5, []), .inr (.inr (.inr (.inl (0, 30)))))])) (.leaf (10, 102, 11, .inr 3, [((1, []), .inr (.inl 13))])))) (.branch 16 (.leaf (14, 104, 7, .inr 3, [((1, []), zaI), ((3, []), .inr (.inr (.inr (.inl (0, 540))))), ((5, []), .inr (.inl 16))])) (.branch 22 (.leaf (17, 0, 540, .inr 1, [])) (.leaf (23, 105, 6, .inr 3, [((0, []), zaI), ((1, []), .inr (.inr (.inr (.inl (0, 1600))))), ((2, []), .inr (.inr (.inr (.inl (0, 1600))))), ((3, []), zaI), ((4, []), .inr (.inl 7)), ((5, []), .inr (.inr (.inr (.inl (0, 1600)))))])))), zw_5019, [], zp_5019.map (fun p => p.1))
def zu_5019 : List zCu := [(([(43, 5, [(2, .inl (0, [(0, 1)])), (0, .inr (.inl 8)), (1, .inl (6, []))], [])], .branch 13 (.branch 8 (.leaf (8, 1, 1600, .inl ((-128), 127), [])) (.branch 9 (.leaf (9, 101, 8, .inr 3, [((0, []), .inr (.inl 9)), ((3, []), .inr (.inl 22)), ((1, []), zaI), ((2, []), zaI), ((5, []), .inr (.inr (.inr (.inl (0, 30)))))])) (.leaf (10, 102, 11, .inr 3, [((1, []), .inr (.inl 13))])))) (.branch 16 (.leaf (14, 104, 7, .inr 3, [((5, []), .inr (.inl 16)), ((1, []), zaI), ((3, []), .inr (.inr (.inr (.inl (0, 540)))))])) (.branch 22 (.leaf (17, 0, 540, .inr 1, [])) (.leaf (23, 105, 6, .inr 3, [((4, []), .inr (.inl 7)), ((5, []), .inr (.inr (.inr (.inl (0, 1600))))), ((0, []), zaI), ((1, []), .inr (.inr (.inr (.inl (0, 1600))))), ((2, []), .inr (.inr (.inr (.inl (0, 1600))))), ((3, []), zaI)])))), [(0, 30)], [], []), [.inl (0, 2)], (30, [(0, (-1))]))]
def zs_5019 : List zCt := [zc_5018, zc_5005]
theorem za_5019 : zwin zw_5019 zc_5019.2.2.2.2.2.1 = true := by decide +kernel
theorem z0_5019 : zst0 mi_P zw_5019 [] [] (fun d y as t en => zcal zw_5019 d y as t en zs_5019) zc_5019 zp_5019 zu_5019 408 = true := by decide +kernel
theorem zk_5019 : zu_5019.all (zck mi_P zc_5019.2.1 zw_5019 false [] [] (fun d y as t en => zcal zw_5019 d y as t en zs_5019) zc_5019.2.2.2.1.length zc_5019.2.2.2.1 zc_5019.2.2.2.2.2.1 zp_5019 zu_5019 408) = true := by decide +kernel
theorem zt_5019 {S : Nat × (Nat → Int32)} : zCtr mi_P S zTt zc_5019 := by
  have hc : ∀ c ∈ zs_5019, zCtr mi_P S zTt c := by
    intro c hc
    simp only [zs_5019, List.mem_cons, List.not_mem_nil, or_false] at hc
    rcases hc with rfl | rfl
    · exact zt_5018
    · exact zt_5005
  exact zCtr_of (Om := zTt) (ct := zc_5019) (ps := zp_5019) (fun _ _ _ _ => trivial) rfl hc za_5019 z0_5019 zk_5019
/-- L$Reader.readRelation(I)V -/
def zw_5020 : zW := .branch 16 (.branch 13 (.leaf (9, [1, 2, 5])) (.leaf (14, [1, 3]))) (.branch 22 (.leaf (17, [0])) (.leaf (23, [0, 1, 2, 3])))
def zp_5020 : List (zPo × List (Nat ⊕ (Nat × zL))) := [(([], [], [(8, [((1, []), zaI), ((2, []), zaI), ((5, []), .inr (.inr (.inr (.inl (0, 30)))))]), (13, [((1, []), zaI), ((3, []), .inr (.inr (.inr (.inl (0, 540)))))]), (16, []), (22, [((0, []), zaI), ((1, []), .inr (.inr (.inr (.inl (0, 1600))))), ((2, []), .inr (.inr (.inr (.inl (0, 1600))))), ((3, []), zaI)])], none), [])]
def zc_5020 : zCt := (42, 17, [.inr (.inl 8), .inl (6, [])], [], [], .branch 13 (.branch 8 (.leaf (8, 1, 1600, .inl ((-128), 127), [])) (.branch 9 (.leaf (9, 101, 8, .inr 3, [((0, []), .inr (.inl 9)), ((1, []), zaI), ((2, []), zaI), ((3, []), .inr (.inl 22)), ((5, []), .inr (.inr (.inr (.inl (0, 30)))))])) (.leaf (10, 102, 11, .inr 3, [((1, []), .inr (.inl 13))])))) (.branch 16 (.leaf (14, 104, 7, .inr 3, [((1, []), zaI), ((3, []), .inr (.inr (.inr (.inl (0, 540))))), ((5, []), .inr (.inl 16))])) (.branch 22 (.leaf (17, 0, 540, .inr 1, [])) (.leaf (23, 105, 6, .inr 3, [((0, []), zaI), ((1, []), .inr (.inr (.inr (.inl (0, 1600))))), ((2, []), .inr (.inr (.inr (.inl (0, 1600))))), ((3, []), zaI), ((4, []), .inr (.inl 7)), ((5, []), .inr (.inr (.inr (.inl (0, 1600)))))])))), zw_5020, [], zp_5020.map (fun p => p.1))
def zu_5020 : List zCu := []
def zs_5020 : List zCt := [zc_5019, zc_5005]
theorem za_5020 : zwin zw_5020 zc_5020.2.2.2.2.2.1 = true := by decide +kernel
theorem z0_5020 : zst0 mi_P zw_5020 [] [] (fun d y as t en => zcal zw_5020 d y as t en zs_5020) zc_5020 zp_5020 zu_5020 470 = true := by decide +kernel
theorem zk_5020 : zu_5020.all (zck mi_P zc_5020.2.1 zw_5020 false [] [] (fun d y as t en => zcal zw_5020 d y as t en zs_5020) zc_5020.2.2.2.1.length zc_5020.2.2.2.1 zc_5020.2.2.2.2.2.1 zp_5020 zu_5020 470) = true := by decide +kernel
theorem zt_5020 {S : Nat × (Nat → Int32)} : zCtr mi_P S zTt zc_5020 := by
  have hc : ∀ c ∈ zs_5020, zCtr mi_P S zTt c := by
    intro c hc
    simp only [zs_5020, List.mem_cons, List.not_mem_nil, or_false] at hc
    rcases hc with rfl | rfl
    · exact zt_5019
    · exact zt_5005
  exact zCtr_of (Om := zTt) (ct := zc_5020) (ps := zp_5020) (fun _ _ _ _ => trivial) rfl hc za_5020 z0_5020 zk_5020
/-- L$Reader.readOne(I)V -/
def zw_5021 : zW := .branch 16 (.branch 13 (.leaf (9, [1, 2, 5])) (.leaf (14, [1, 3]))) (.branch 22 (.leaf (17, [0])) (.leaf (23, [0, 1, 2, 3])))
def zp_5021 : List (zPo × List (Nat ⊕ (Nat × zL))) := [(([], [], [(8, [((1, []), zaI), ((2, []), zaI), ((5, []), .inr (.inr (.inr (.inl (0, 30)))))]), (13, [((1, []), zaI), ((3, []), .inr (.inr (.inr (.inl (0, 540)))))]), (16, []), (22, [((0, []), zaI), ((1, []), .inr (.inr (.inr (.inl (0, 1600))))), ((2, []), .inr (.inr (.inr (.inl (0, 1600))))), ((3, []), zaI)])], none), [])]
def zc_5021 : zCt := (41, 18, [.inr (.inl 8), .inl (6, [])], [], [], .branch 13 (.branch 8 (.leaf (8, 1, 1600, .inl ((-128), 127), [])) (.branch 9 (.leaf (9, 101, 8, .inr 3, [((0, []), .inr (.inl 9)), ((1, []), zaI), ((2, []), zaI), ((3, []), .inr (.inl 22)), ((5, []), .inr (.inr (.inr (.inl (0, 30)))))])) (.leaf (10, 102, 11, .inr 3, [((1, []), .inr (.inl 13))])))) (.branch 16 (.leaf (14, 104, 7, .inr 3, [((1, []), zaI), ((3, []), .inr (.inr (.inr (.inl (0, 540))))), ((5, []), .inr (.inl 16))])) (.branch 22 (.leaf (17, 0, 540, .inr 1, [])) (.leaf (23, 105, 6, .inr 3, [((0, []), zaI), ((1, []), .inr (.inr (.inr (.inl (0, 1600))))), ((2, []), .inr (.inr (.inr (.inl (0, 1600))))), ((3, []), zaI), ((4, []), .inr (.inl 7)), ((5, []), .inr (.inr (.inr (.inl (0, 1600)))))])))), zw_5021, [], zp_5021.map (fun p => p.1))
def zu_5021 : List zCu := []
def zs_5021 : List zCt := [zc_5005, zc_5014, zc_5020]
theorem za_5021 : zwin zw_5021 zc_5021.2.2.2.2.2.1 = true := by decide +kernel
theorem z0_5021 : zst0 mi_P zw_5021 [] [] (fun d y as t en => zcal zw_5021 d y as t en zs_5021) zc_5021 zp_5021 zu_5021 296 = true := by decide +kernel
theorem zk_5021 : zu_5021.all (zck mi_P zc_5021.2.1 zw_5021 false [] [] (fun d y as t en => zcal zw_5021 d y as t en zs_5021) zc_5021.2.2.2.1.length zc_5021.2.2.2.1 zc_5021.2.2.2.2.2.1 zp_5021 zu_5021 296) = true := by decide +kernel
theorem zt_5021 {S : Nat × (Nat → Int32)} : zCtr mi_P S zTt zc_5021 := by
  have hc : ∀ c ∈ zs_5021, zCtr mi_P S zTt c := by
    intro c hc
    simp only [zs_5021, List.mem_cons, List.not_mem_nil, or_false] at hc
    rcases hc with rfl | rfl | rfl
    · exact zt_5005
    · exact zt_5014
    · exact zt_5020
  exact zCtr_of (Om := zTt) (ct := zc_5021) (ps := zp_5021) (fun _ _ _ _ => trivial) rfl hc za_5021 z0_5021 zk_5021
/-- L$Reader.readAnds(I)V -/
def zw_5022 : zW := .branch 16 (.branch 13 (.leaf (9, [1, 2, 5])) (.leaf (14, [1, 3]))) (.branch 22 (.leaf (17, [0])) (.leaf (23, [0, 1, 2, 3])))
def zp_5022 : List (zPo × List (Nat ⊕ (Nat × zL))) := [(([], [], [(8, [((1, []), zaI), ((2, []), zaI), ((5, []), .inr (.inr (.inr (.inl (0, 30)))))]), (13, [((1, []), zaI), ((3, []), .inr (.inr (.inr (.inl (0, 540)))))]), (16, []), (22, [((0, []), zaI), ((1, []), .inr (.inr (.inr (.inl (0, 1600))))), ((2, []), .inr (.inr (.inr (.inl (0, 1600))))), ((3, []), zaI)])], none), [])]
def zc_5022 : zCt := (40, 19, [.inr (.inl 8), .inl (6, [])], [], [], .branch 13 (.branch 8 (.leaf (8, 1, 1600, .inl ((-128), 127), [])) (.branch 9 (.leaf (9, 101, 8, .inr 3, [((0, []), .inr (.inl 9)), ((1, []), zaI), ((2, []), zaI), ((3, []), .inr (.inl 22)), ((5, []), .inr (.inr (.inr (.inl (0, 30)))))])) (.leaf (10, 102, 11, .inr 3, [((1, []), .inr (.inl 13))])))) (.branch 16 (.leaf (14, 104, 7, .inr 3, [((1, []), zaI), ((3, []), .inr (.inr (.inr (.inl (0, 540))))), ((5, []), .inr (.inl 16))])) (.branch 22 (.leaf (17, 0, 540, .inr 1, [])) (.leaf (23, 105, 6, .inr 3, [((0, []), zaI), ((1, []), .inr (.inr (.inr (.inl (0, 1600))))), ((2, []), .inr (.inr (.inr (.inl (0, 1600))))), ((3, []), zaI), ((4, []), .inr (.inl 7)), ((5, []), .inr (.inr (.inr (.inl (0, 1600)))))])))), zw_5022, [], zp_5022.map (fun p => p.1))
def zu_5022 : List zCu := [(([(40, 5, [(2, .inl (0, [(0, 1)])), (0, .inr (.inl 8)), (1, .inl (6, []))], [])], .branch 13 (.branch 8 (.leaf (8, 1, 1600, .inl ((-128), 127), [])) (.branch 9 (.leaf (9, 101, 8, .inr 3, [((0, []), .inr (.inl 9)), ((3, []), .inr (.inl 22)), ((1, []), zaI), ((2, []), zaI), ((5, []), .inr (.inr (.inr (.inl (0, 30)))))])) (.leaf (10, 102, 11, .inr 3, [((1, []), .inr (.inl 13))])))) (.branch 16 (.leaf (14, 104, 7, .inr 3, [((5, []), .inr (.inl 16)), ((1, []), zaI), ((3, []), .inr (.inr (.inr (.inl (0, 540)))))])) (.branch 22 (.leaf (17, 0, 540, .inr 1, [])) (.leaf (23, 105, 6, .inr 3, [((4, []), .inr (.inl 7)), ((5, []), .inr (.inr (.inr (.inl (0, 1600))))), ((0, []), zaI), ((1, []), .inr (.inr (.inr (.inl (0, 1600))))), ((2, []), .inr (.inr (.inr (.inl (0, 1600))))), ((3, []), zaI)])))), [(0, 30)], [], []), [.inl (0, 2)], (30, [(0, (-1))]))]
def zs_5022 : List zCt := [zc_5021, zc_5005]
theorem za_5022 : zwin zw_5022 zc_5022.2.2.2.2.2.1 = true := by decide +kernel
theorem z0_5022 : zst0 mi_P zw_5022 [] [] (fun d y as t en => zcal zw_5022 d y as t en zs_5022) zc_5022 zp_5022 zu_5022 292 = true := by decide +kernel
theorem zk_5022 : zu_5022.all (zck mi_P zc_5022.2.1 zw_5022 false [] [] (fun d y as t en => zcal zw_5022 d y as t en zs_5022) zc_5022.2.2.2.1.length zc_5022.2.2.2.1 zc_5022.2.2.2.2.2.1 zp_5022 zu_5022 292) = true := by decide +kernel
theorem zt_5022 {S : Nat × (Nat → Int32)} : zCtr mi_P S zTt zc_5022 := by
  have hc : ∀ c ∈ zs_5022, zCtr mi_P S zTt c := by
    intro c hc
    simp only [zs_5022, List.mem_cons, List.not_mem_nil, or_false] at hc
    rcases hc with rfl | rfl
    · exact zt_5021
    · exact zt_5005
  exact zCtr_of (Om := zTt) (ct := zc_5022) (ps := zp_5022) (fun _ _ _ _ => trivial) rfl hc za_5022 z0_5022 zk_5022
/-- L$Reader.readOrs(I)V -/
def zw_5023 : zW := .branch 16 (.branch 13 (.leaf (9, [1, 2, 5])) (.leaf (14, [1, 3]))) (.branch 22 (.leaf (17, [0])) (.leaf (23, [0, 1, 2, 3])))
def zp_5023 : List (zPo × List (Nat ⊕ (Nat × zL))) := [(([], [], [(8, [((1, []), zaI), ((2, []), zaI), ((5, []), .inr (.inr (.inr (.inl (0, 30)))))]), (13, [((1, []), zaI), ((3, []), .inr (.inr (.inr (.inl (0, 540)))))]), (16, []), (22, [((0, []), zaI), ((1, []), .inr (.inr (.inr (.inl (0, 1600))))), ((2, []), .inr (.inr (.inr (.inl (0, 1600))))), ((3, []), zaI)])], none), [])]
def zc_5023 : zCt := (39, 20, [.inr (.inl 8), .inl (6, [])], [], [], .branch 13 (.branch 8 (.leaf (8, 1, 1600, .inl ((-128), 127), [])) (.branch 9 (.leaf (9, 101, 8, .inr 3, [((0, []), .inr (.inl 9)), ((1, []), zaI), ((2, []), zaI), ((3, []), .inr (.inl 22)), ((5, []), .inr (.inr (.inr (.inl (0, 30)))))])) (.leaf (10, 102, 11, .inr 3, [((1, []), .inr (.inl 13))])))) (.branch 16 (.leaf (14, 104, 7, .inr 3, [((1, []), zaI), ((3, []), .inr (.inr (.inr (.inl (0, 540))))), ((5, []), .inr (.inl 16))])) (.branch 22 (.leaf (17, 0, 540, .inr 1, [])) (.leaf (23, 105, 6, .inr 3, [((0, []), zaI), ((1, []), .inr (.inr (.inr (.inl (0, 1600))))), ((2, []), .inr (.inr (.inr (.inl (0, 1600))))), ((3, []), zaI), ((4, []), .inr (.inl 7)), ((5, []), .inr (.inr (.inr (.inl (0, 1600)))))])))), zw_5023, [], zp_5023.map (fun p => p.1))
def zu_5023 : List zCu := [(([(39, 5, [(2, .inl (0, [(0, 1)])), (0, .inr (.inl 8)), (1, .inl (6, []))], [])], .branch 13 (.branch 8 (.leaf (8, 1, 1600, .inl ((-128), 127), [])) (.branch 9 (.leaf (9, 101, 8, .inr 3, [((0, []), .inr (.inl 9)), ((3, []), .inr (.inl 22)), ((1, []), zaI), ((2, []), zaI), ((5, []), .inr (.inr (.inr (.inl (0, 30)))))])) (.leaf (10, 102, 11, .inr 3, [((1, []), .inr (.inl 13))])))) (.branch 16 (.leaf (14, 104, 7, .inr 3, [((5, []), .inr (.inl 16)), ((1, []), zaI), ((3, []), .inr (.inr (.inr (.inl (0, 540)))))])) (.branch 22 (.leaf (17, 0, 540, .inr 1, [])) (.leaf (23, 105, 6, .inr 3, [((4, []), .inr (.inl 7)), ((5, []), .inr (.inr (.inr (.inl (0, 1600))))), ((0, []), zaI), ((1, []), .inr (.inr (.inr (.inl (0, 1600))))), ((2, []), .inr (.inr (.inr (.inl (0, 1600))))), ((3, []), zaI)])))), [(0, 30)], [], []), [.inl (0, 2)], (30, [(0, (-1))]))]
def zs_5023 : List zCt := [zc_5022, zc_5005]
theorem za_5023 : zwin zw_5023 zc_5023.2.2.2.2.2.1 = true := by decide +kernel
theorem z0_5023 : zst0 mi_P zw_5023 [] [] (fun d y as t en => zcal zw_5023 d y as t en zs_5023) zc_5023 zp_5023 zu_5023 292 = true := by decide +kernel
theorem zk_5023 : zu_5023.all (zck mi_P zc_5023.2.1 zw_5023 false [] [] (fun d y as t en => zcal zw_5023 d y as t en zs_5023) zc_5023.2.2.2.1.length zc_5023.2.2.2.1 zc_5023.2.2.2.2.2.1 zp_5023 zu_5023 292) = true := by decide +kernel
theorem zt_5023 {S : Nat × (Nat → Int32)} : zCtr mi_P S zTt zc_5023 := by
  have hc : ∀ c ∈ zs_5023, zCtr mi_P S zTt c := by
    intro c hc
    simp only [zs_5023, List.mem_cons, List.not_mem_nil, or_false] at hc
    rcases hc with rfl | rfl
    · exact zt_5022
    · exact zt_5005
  exact zCtr_of (Om := zTt) (ct := zc_5023) (ps := zp_5023) (fun _ _ _ _ => trivial) rfl hc za_5023 z0_5023 zk_5023
