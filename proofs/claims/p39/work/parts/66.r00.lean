/-- LModel.isKept(J)Z -/
def zw_3000 : zW := .leaf (0, [])
def zq_3000_0 : zPo := ([], [], [], some (.inr (.inr (.inr (.inl (0, 1))))))
def zp_3000 : List (zPo × List (Nat ⊕ (Nat × zL))) := [(zq_3000_0, [])]
def zc_3000 : zCt := (174, 0, [.inr (.inr (.inr (.inr 0)))], [], [], .leaf (0, 0, 0, .inr 3, []), zw_3000, [], zp_3000.map (fun p => p.1))
def zu_3000 : List zCu := []
def zs_3000 : List zCt := []
theorem za_3000 : zwin zw_3000 zc_3000.2.2.2.2.2.1 = true := by decide +kernel
theorem z0_3000 : zst0 mi_P zw_3000 [] [] (fun d y as t en => zcal zw_3000 d y as t en zs_3000) zc_3000 zp_3000 zu_3000 3066 = true := by decide +kernel
theorem zk_3000 : zu_3000.all (zck mi_P zc_3000.2.1 zw_3000 false [] [] (fun d y as t en => zcal zw_3000 d y as t en zs_3000) zc_3000.2.2.2.1.length zc_3000.2.2.2.1 zc_3000.2.2.2.2.2.1 zp_3000 zu_3000 3066) = true := by decide +kernel
theorem zt_3000 {S : Nat × (Nat → Int32)} : zCtr mi_P S zTt zc_3000 := by
  have hc : ∀ c ∈ zs_3000, zCtr mi_P S zTt c := fun c hc => by cases hc
  exact zCtr_of (Om := zTt) (ct := zc_3000) (ps := zp_3000) (fun _ _ _ _ => trivial) rfl hc za_3000 z0_3000 zk_3000
/-- LModel.isSign(I)Z -/
def zw_3001 : zW := .leaf (0, [])
def zq_3001_0 : zPo := ([], [], [], some (.inr (.inr (.inr (.inl (0, 1))))))
def zp_3001 : List (zPo × List (Nat ⊕ (Nat × zL))) := [(zq_3001_0, [])]
def zc_3001 : zCt := (176, 0, [zaI], [], [], .leaf (0, 0, 0, .inr 3, []), zw_3001, [], zp_3001.map (fun p => p.1))
def zu_3001 : List zCu := []
def zs_3001 : List zCt := []
theorem za_3001 : zwin zw_3001 zc_3001.2.2.2.2.2.1 = true := by decide +kernel
theorem z0_3001 : zst0 mi_P zw_3001 [] [] (fun d y as t en => zcal zw_3001 d y as t en zs_3001) zc_3001 zp_3001 zu_3001 312 = true := by decide +kernel
theorem zk_3001 : zu_3001.all (zck mi_P zc_3001.2.1 zw_3001 false [] [] (fun d y as t en => zcal zw_3001 d y as t en zs_3001) zc_3001.2.2.2.1.length zc_3001.2.2.2.1 zc_3001.2.2.2.2.2.1 zp_3001 zu_3001 312) = true := by decide +kernel
theorem zt_3001 {S : Nat × (Nat → Int32)} : zCtr mi_P S zTt zc_3001 := by
  have hc : ∀ c ∈ zs_3001, zCtr mi_P S zTt c := fun c hc => by cases hc
  exact zCtr_of (Om := zTt) (ct := zc_3001) (ps := zp_3001) (fun _ _ _ _ => trivial) rfl hc za_3001 z0_3001 zk_3001
/-- LModel.goOn()V -/
def zw_3002 : zW := .leaf (470, [6, 7, 8])
def zq_3002_0 : zPo := ([], [], [(469, [((6, []), .inl (0, [(0, 1)])), ((7, []), .inl (0, [(0, 1)])), ((8, []), .inl (0, []))])], none)
def zp_3002 : List (zPo × List (Nat ⊕ (Nat × zL))) := [(zq_3002_0, [])]
def zc_3002 : zCt := (171, 1, [.inr (.inl 469)], [(0, 1600)], [], .leaf (470, 112, 73, .inr 3, [((3, []), .inl (0, [(0, 1)])), ((6, []), .inl (0, [(0, 1)])), ((7, []), .inl (0, [(0, 1)])), ((8, []), .inl (0, []))]), zw_3002, [.inr (469, (7, []))], zp_3002.map (fun p => p.1))
def zu_3002 : List zCu := [(([(171, 4, [(0, .inr (.inl 469))], [])], .leaf (470, 112, 73, .inr 3, [((3, []), .inl (0, [(0, 1)])), ((7, []), .inl (0, [(0, 1)])), ((8, []), .inl (0, [])), ((6, []), .inl (0, [(0, 1)]))]), [(0, 1600)], [], []), [], (0, []))]
def zs_3002 : List zCt := []
theorem za_3002 : zwin zw_3002 zc_3002.2.2.2.2.2.1 = true := by decide +kernel
theorem z0_3002 : zst0 mi_P zw_3002 [] [] (fun d y as t en => zcal zw_3002 d y as t en zs_3002) zc_3002 zp_3002 zu_3002 278 = true := by decide +kernel
theorem zk_3002 : zu_3002.all (zck mi_P zc_3002.2.1 zw_3002 false [] [] (fun d y as t en => zcal zw_3002 d y as t en zs_3002) zc_3002.2.2.2.1.length zc_3002.2.2.2.1 zc_3002.2.2.2.2.2.1 zp_3002 zu_3002 278) = true := by decide +kernel
theorem zt_3002 {S : Nat × (Nat → Int32)} : zCtr mi_P S zTt zc_3002 := by
  have hc : ∀ c ∈ zs_3002, zCtr mi_P S zTt c := fun c hc => by cases hc
  exact zCtr_of (Om := zTt) (ct := zc_3002) (ps := zp_3002) (fun _ _ _ _ => trivial) rfl hc za_3002 z0_3002 zk_3002
/-- LModel.goOn()V -/
def zw_3003 : zW := .leaf (470, [6, 7, 8, 9, 10])
def zq_3003_0 : zPo := ([(0, 1600), (0, 1600)], [(1, [(2, 1), (3, (-1))]), (0, [(1, (-1)), (3, 1)]), (0, [(0, 1), (2, (-1))]), (1, [(0, 1), (3, (-1))])], [(469, [((6, []), .inl (0, [(2, 1)])), ((7, []), .inl (0, [(3, 1)])), ((8, []), .inr (.inr (.inr (.inl (1, 5))))), ((9, []), zaI), ((10, []), .inr (.inr (.inr (.inr 0))))])], none)
def zq_3003_1 : zPo := ([], [], [(469, [((6, []), .inl (0, [(1, 1)])), ((7, []), .inl (0, [(1, 1)])), ((8, []), .inl (0, [])), ((9, []), zaI), ((10, []), .inr (.inr (.inr (.inr 0))))])], none)
def zp_3003 : List (zPo × List (Nat ⊕ (Nat × zL))) := [(zq_3003_0, [.inr (469, (6, [])), .inr (469, (7, []))]), (zq_3003_1, [])]
def zc_3003 : zCt := (171, 1, [.inr (.inl 469)], [(0, 1600), (0, 1600)], [(0, [(0, 1), (1, (-1))])], .branch 471 (.leaf (470, 112, 73, .inr 3, [((1, []), .inr (.inl 471)), ((3, []), .inl (0, [(1, 1)])), ((6, []), .inr (.inr (.inr (.inl (0, 1600))))), ((7, []), .inl (0, [(0, 1)])), ((8, []), .inr (.inr (.inr (.inl (0, 5))))), ((9, []), zaI), ((10, []), .inr (.inr (.inr (.inr 0))))])) (.leaf (472, 1, 1600, .inl ((-128), 127), [])), zw_3003, [.inr (469, (7, [])), .inr (469, (3, []))], zp_3003.map (fun p => p.1))
def zu_3003 : List zCu := [(([(171, 4, [(0, .inr (.inl 469))], [])], .branch 471 (.leaf (470, 112, 73, .inr 3, [((1, []), .inr (.inl 471)), ((3, []), .inl (0, [(1, 1)])), ((7, []), .inl (0, [(0, 1)])), ((8, []), .inr (.inr (.inr (.inl (0, 5))))), ((9, []), zaI), ((10, []), .inr (.inr (.inr (.inr 0)))), ((6, []), .inl (0, [(2, 1)]))])) (.leaf (472, 1, 1600, .inl ((-128), 127), [])), [(0, 1600), (0, 1600), (0, 1600)], [(0, [(0, 1), (1, (-1))]), (0, [(1, (-1)), (2, 1)]), (0, [(0, 1), (2, (-1))])], []), [.inr (.inr (469, (6, [])))], (6403, [(2, (-1))])), (([(171, 59, [(1, .inl (0, [(2, 1)])), (0, .inr (.inl 469))], [])], .branch 471 (.leaf (470, 112, 73, .inr 3, [((1, []), .inr (.inl 471)), ((3, []), .inl (0, [(1, 1)])), ((8, []), .inr (.inr (.inr (.inl (0, 5))))), ((9, []), zaI), ((10, []), .inr (.inr (.inr (.inr 0)))), ((6, []), .inl (0, [(3, 1)])), ((7, []), .inl (0, [(4, 1)]))])) (.leaf (472, 1, 1600, .inl ((-128), 127), [])), [(0, 1599), (1, 1600), (97, 122), (0, 1599), (1, 1600)], [(0, [(0, 1), (1, (-1))]), (1, [(0, 1), (1, (-1))]), (1, [(1, (-1)), (3, 1)]), (0, [(0, 1), (3, (-1))]), (0, [(1, (-1)), (4, 1)]), (1, [(3, 1), (4, (-1))]), (1, [(0, 1), (4, (-1))])], []), [.inl (0, 1), .inr (.inr (469, (6, []))), .inr (.inr (469, (7, [])))], (4802, [(4, (-1))])), (([(171, 130, [(1, .inl (0, [(2, 1)])), (0, .inr (.inl 469))], [])], .branch 471 (.leaf (470, 112, 73, .inr 3, [((1, []), .inr (.inl 471)), ((3, []), .inl (0, [(1, 1)])), ((8, []), .inr (.inr (.inr (.inl (0, 5))))), ((10, []), .inr (.inr (.inr (.inr 0)))), ((6, []), .inl (0, [(3, 1)])), ((9, []), zaI), ((7, []), .inl (0, [(4, 1)]))])) (.leaf (472, 1, 1600, .inl ((-128), 127), [])), [(0, 1599), (1, 1600), (48, 57), (0, 1599), (1, 1600)], [(0, [(0, 1), (1, (-1))]), (1, [(0, 1), (1, (-1))]), (1, [(1, (-1)), (3, 1)]), (0, [(0, 1), (3, (-1))]), (0, [(1, (-1)), (4, 1)]), (1, [(3, 1), (4, (-1))]), (1, [(0, 1), (4, (-1))])], []), [.inl (0, 1), .inr (.inr (469, (6, []))), .inr (.inr (469, (7, [])))], (1600, [(4, (-1))])), (([(171, 78, [(2, .inl (0, [(5, 1)])), (1, .inl (0, [(2, 1)])), (0, .inr (.inl 469))], [])], .branch 471 (.leaf (470, 112, 73, .inr 3, [((1, []), .inr (.inl 471)), ((3, []), .inl (0, [(1, 1)])), ((8, []), .inr (.inr (.inr (.inl (0, 5))))), ((9, []), zaI), ((6, []), .inl (0, [(3, 1)])), ((7, []), .inl (0, [(4, 1)])), ((10, []), .inr (.inr (.inr (.inr 0))))])) (.leaf (472, 1, 1600, .inl ((-128), 127), [])), [(0, 1599), (1, 1600), (97, 122), (0, 1599), (1, 1600), (0, 1600)], [(0, [(0, 1), (1, (-1))]), (1, [(0, 1), (1, (-1))]), (1, [(1, (-1)), (3, 1)]), (0, [(0, 1), (3, (-1))]), (0, [(1, (-1)), (4, 1)]), (1, [(3, 1), (4, (-1))]), (1, [(0, 1), (4, (-1))]), (0, [(1, (-1)), (5, 1)]), (0, [(3, 1), (5, (-1))]), (0, [(4, (-1)), (5, 1)]), (0, [(0, 1), (5, (-1))])], []), [.inl (0, 1), .inr (.inr (469, (6, []))), .inr (.inr (469, (7, []))), .inl (0, 2)], (3201, [(5, (-1))]))]
def zs_3003 : List zCt := [zc_3001, zc_3000]
theorem za_3003 : zwin zw_3003 zc_3003.2.2.2.2.2.1 = true := by decide +kernel
theorem z0_3003 : zst0 mi_P zw_3003 [] [] (fun d y as t en => zcal zw_3003 d y as t en zs_3003) zc_3003 zp_3003 zu_3003 890 = true := by decide +kernel
theorem zk_3003 : zu_3003.all (zck mi_P zc_3003.2.1 zw_3003 false [] [] (fun d y as t en => zcal zw_3003 d y as t en zs_3003) zc_3003.2.2.2.1.length zc_3003.2.2.2.1 zc_3003.2.2.2.2.2.1 zp_3003 zu_3003 890) = true := by decide +kernel
theorem zt_3003 {S : Nat × (Nat → Int32)} : zCtr mi_P S zTt zc_3003 := by
  have hc : ∀ c ∈ zs_3003, zCtr mi_P S zTt c := by
    intro c hc
    simp only [zs_3003, List.mem_cons, List.not_mem_nil, or_false] at hc
    rcases hc with rfl | rfl
    · exact zt_3001
    · exact zt_3000
  exact zCtr_of (Om := zTt) (ct := zc_3003) (ps := zp_3003) (fun _ _ _ _ => trivial) rfl hc za_3003 z0_3003 zk_3003
/-- LModel.emit(II)V -/
def zw_3004 : zW := .branch 490 (.leaf (470, [36])) (.branch 491 (.leaf (491, [0])) (.leaf (492, [0])))
def zq_3004_0 : zPo := ([], [], [(469, [((36, []), .inl (1, [(1, 1)]))]), (490, [((0, [(1, 1)]), .inl (0, [(0, 1)]))]), (491, [])], none)
def zp_3004 : List (zPo × List (Nat ⊕ (Nat × zL))) := [(zq_3004_0, [])]
def zc_3004 : zCt := (194, 0, [.inr (.inl 469), .inl (0, [(0, 1)]), zaI], [((-2147483648), 2147483647), (0, 1119)], [], .branch 490 (.leaf (470, 112, 73, .inr 3, [((29, []), .inr (.inl 490)), ((30, []), .inr (.inl 491)), ((36, []), .inl (0, [(1, 1)]))])) (.branch 491 (.leaf (491, 0, 1120, .inl ((-2147483648), 2147483647), [])) (.leaf (492, 0, 1120, .inl ((-2147483648), 2147483647), []))), zw_3004, [.inl 1, .inr (469, (36, []))], zp_3004.map (fun p => p.1))
def zu_3004 : List zCu := []
def zs_3004 : List zCt := []
theorem za_3004 : zwin zw_3004 zc_3004.2.2.2.2.2.1 = true := by decide +kernel
theorem z0_3004 : zst0 mi_P zw_3004 [] [] (fun d y as t en => zcal zw_3004 d y as t en zs_3004) zc_3004 zp_3004 zu_3004 236 = true := by decide +kernel
theorem zk_3004 : zu_3004.all (zck mi_P zc_3004.2.1 zw_3004 false [] [] (fun d y as t en => zcal zw_3004 d y as t en zs_3004) zc_3004.2.2.2.1.length zc_3004.2.2.2.1 zc_3004.2.2.2.2.2.1 zp_3004 zu_3004 236) = true := by decide +kernel
theorem zt_3004 {S : Nat × (Nat → Int32)} : zCtr mi_P S zTt zc_3004 := by
  have hc : ∀ c ∈ zs_3004, zCtr mi_P S zTt c := fun c hc => by cases hc
  exact zCtr_of (Om := zTt) (ct := zc_3004) (ps := zp_3004) (fun _ _ _ _ => trivial) rfl hc za_3004 z0_3004 zk_3004
/-- LModel.emit(II)V -/
def zw_3005 : zW := .branch 490 (.leaf (470, [36])) (.branch 491 (.leaf (491, [0])) (.leaf (492, [0])))
def zq_3005_0 : zPo := ([], [], [(469, [((36, []), .inr (.inr (.inr (.inl (0, 1120)))))]), (490, [((0, [(2, 1)]), .inl (0, [(3, 1)]))]), (491, [])], none)
def zp_3005 : List (zPo × List (Nat ⊕ (Nat × zL))) := [(zq_3005_0, [])]
def zc_3005 : zCt := (194, 0, [.inr (.inl 469), .inl (0, [(0, 1)]), zaI], [((-2147483648), 2147483647), (0, 1119), (0, 1119), ((-2147483648), 2147483647)], [(1, [(1, (-1)), (2, 1)])], .branch 490 (.leaf (470, 112, 73, .inr 3, [((29, []), .inr (.inl 490)), ((30, []), .inr (.inl 491)), ((36, []), .inl (0, [(1, 1)]))])) (.branch 491 (.leaf (491, 0, 1120, .inl ((-2147483648), 2147483647), [((0, [(2, 1)]), .inl (0, [(3, 1)]))])) (.leaf (492, 0, 1120, .inl ((-2147483648), 2147483647), []))), zw_3005, [.inl 1, .inr (469, (36, [])), .inl 0, .inr (490, (0, [(2, 1)]))], zp_3005.map (fun p => p.1))
def zu_3005 : List zCu := []
def zs_3005 : List zCt := []
theorem za_3005 : zwin zw_3005 zc_3005.2.2.2.2.2.1 = true := by decide +kernel
theorem z0_3005 : zst0 mi_P zw_3005 [] [] (fun d y as t en => zcal zw_3005 d y as t en zs_3005) zc_3005 zp_3005 zu_3005 236 = true := by decide +kernel
theorem zk_3005 : zu_3005.all (zck mi_P zc_3005.2.1 zw_3005 false [] [] (fun d y as t en => zcal zw_3005 d y as t en zs_3005) zc_3005.2.2.2.1.length zc_3005.2.2.2.1 zc_3005.2.2.2.2.2.1 zp_3005 zu_3005 236) = true := by decide +kernel
theorem zt_3005 {S : Nat × (Nat → Int32)} : zCtr mi_P S zTt zc_3005 := by
  have hc : ∀ c ∈ zs_3005, zCtr mi_P S zTt c := fun c hc => by cases hc
  exact zCtr_of (Om := zTt) (ct := zc_3005) (ps := zp_3005) (fun _ _ _ _ => trivial) rfl hc za_3005 z0_3005 zk_3005
/-- LModel.emit(II)V -/
def zw_3006 : zW := .branch 490 (.leaf (470, [36])) (.branch 491 (.leaf (491, [0])) (.leaf (492, [0])))
def zq_3006_0 : zPo := ([], [], [(469, [((36, []), .inr (.inr (.inr (.inl (0, 1120)))))]), (490, [((0, [(2, 1)]), .inl (0, [(3, 1)]))]), (491, [])], none)
def zp_3006 : List (zPo × List (Nat ⊕ (Nat × zL))) := [(zq_3006_0, [])]
def zc_3006 : zCt := (194, 0, [.inr (.inl 469), .inl (0, [(0, 1)]), zaI], [((-2147483648), 2147483647), (0, 1119), (0, 1119), ((-2147483648), 2147483647)], [(1, [(1, 1), (2, (-1))])], .branch 490 (.leaf (470, 112, 73, .inr 3, [((29, []), .inr (.inl 490)), ((30, []), .inr (.inl 491)), ((36, []), .inl (0, [(1, 1)]))])) (.branch 491 (.leaf (491, 0, 1120, .inl ((-2147483648), 2147483647), [((0, [(2, 1)]), .inl (0, [(3, 1)]))])) (.leaf (492, 0, 1120, .inl ((-2147483648), 2147483647), []))), zw_3006, [.inl 1, .inr (469, (36, [])), .inl 0, .inr (490, (0, [(2, 1)]))], zp_3006.map (fun p => p.1))
def zu_3006 : List zCu := []
def zs_3006 : List zCt := []
theorem za_3006 : zwin zw_3006 zc_3006.2.2.2.2.2.1 = true := by decide +kernel
theorem z0_3006 : zst0 mi_P zw_3006 [] [] (fun d y as t en => zcal zw_3006 d y as t en zs_3006) zc_3006 zp_3006 zu_3006 236 = true := by decide +kernel
theorem zk_3006 : zu_3006.all (zck mi_P zc_3006.2.1 zw_3006 false [] [] (fun d y as t en => zcal zw_3006 d y as t en zs_3006) zc_3006.2.2.2.1.length zc_3006.2.2.2.1 zc_3006.2.2.2.2.2.1 zp_3006 zu_3006 236) = true := by decide +kernel
theorem zt_3006 {S : Nat × (Nat → Int32)} : zCtr mi_P S zTt zc_3006 := by
  have hc : ∀ c ∈ zs_3006, zCtr mi_P S zTt c := fun c hc => by cases hc
  exact zCtr_of (Om := zTt) (ct := zc_3006) (ps := zp_3006) (fun _ _ _ _ => trivial) rfl hc za_3006 z0_3006 zk_3006
/-- LModel.isWord(J)Z -/
def zw_3007 : zW := .leaf (0, [])
def zq_3007_0 : zPo := ([], [], [], some (.inl (0, [])))
def zp_3007 : List (zPo × List (Nat ⊕ (Nat × zL))) := [(zq_3007_0, [])]
def zc_3007 : zCt := (180, 0, [.inr (.inl 469), .inr (.inr (.inr (.inr 0)))], [], [], .leaf (470, 112, 73, .inr 3, [((8, []), .inl (0, []))]), zw_3007, [], zp_3007.map (fun p => p.1))
def zu_3007 : List zCu := []
def zs_3007 : List zCt := []
theorem za_3007 : zwin zw_3007 zc_3007.2.2.2.2.2.1 = true := by decide +kernel
theorem z0_3007 : zst0 mi_P zw_3007 [] [] (fun d y as t en => zcal zw_3007 d y as t en zs_3007) zc_3007 zp_3007 zu_3007 210 = true := by decide +kernel
theorem zk_3007 : zu_3007.all (zck mi_P zc_3007.2.1 zw_3007 false [] [] (fun d y as t en => zcal zw_3007 d y as t en zs_3007) zc_3007.2.2.2.1.length zc_3007.2.2.2.1 zc_3007.2.2.2.2.2.1 zp_3007 zu_3007 210) = true := by decide +kernel
theorem zt_3007 {S : Nat × (Nat → Int32)} : zCtr mi_P S zTt zc_3007 := by
  have hc : ∀ c ∈ zs_3007, zCtr mi_P S zTt c := fun c hc => by cases hc
  exact zCtr_of (Om := zTt) (ct := zc_3007) (ps := zp_3007) (fun _ _ _ _ => trivial) rfl hc za_3007 z0_3007 zk_3007
/-- LModel.isSignHere(I)Z -/
def zw_3008 : zW := .leaf (0, [])
def zq_3008_0 : zPo := ([], [], [], some (.inl (0, [])))
def zp_3008 : List (zPo × List (Nat ⊕ (Nat × zL))) := [(zq_3008_0, [])]
def zc_3008 : zCt := (192, 0, [.inr (.inl 469), zaI], [], [], .leaf (470, 112, 73, .inr 3, [((8, []), .inl (0, []))]), zw_3008, [], zp_3008.map (fun p => p.1))
def zu_3008 : List zCu := []
def zs_3008 : List zCt := []
theorem za_3008 : zwin zw_3008 zc_3008.2.2.2.2.2.1 = true := by decide +kernel
theorem z0_3008 : zst0 mi_P zw_3008 [] [] (fun d y as t en => zcal zw_3008 d y as t en zs_3008) zc_3008 zp_3008 zu_3008 210 = true := by decide +kernel
theorem zk_3008 : zu_3008.all (zck mi_P zc_3008.2.1 zw_3008 false [] [] (fun d y as t en => zcal zw_3008 d y as t en zs_3008) zc_3008.2.2.2.1.length zc_3008.2.2.2.1 zc_3008.2.2.2.2.2.1 zp_3008 zu_3008 210) = true := by decide +kernel
theorem zt_3008 {S : Nat × (Nat → Int32)} : zCtr mi_P S zTt zc_3008 := by
  have hc : ∀ c ∈ zs_3008, zCtr mi_P S zTt c := fun c hc => by cases hc
  exact zCtr_of (Om := zTt) (ct := zc_3008) (ps := zp_3008) (fun _ _ _ _ => trivial) rfl hc za_3008 z0_3008 zk_3008
/-- LModel.wordHere()I -/
def zw_3009 : zW := .leaf (0, [])
def zq_3009_0 : zPo := ([], [], [], some (.inl (0, [])))
def zp_3009 : List (zPo × List (Nat ⊕ (Nat × zL))) := [(zq_3009_0, [])]
def zc_3009 : zCt := (193, 1, [.inr (.inl 469)], [], [], .leaf (470, 112, 73, .inr 3, [((8, []), .inl (0, []))]), zw_3009, [], zp_3009.map (fun p => p.1))
def zu_3009 : List zCu := []
def zs_3009 : List zCt := [zc_3007]
theorem za_3009 : zwin zw_3009 zc_3009.2.2.2.2.2.1 = true := by decide +kernel
theorem z0_3009 : zst0 mi_P zw_3009 [] [] (fun d y as t en => zcal zw_3009 d y as t en zs_3009) zc_3009 zp_3009 zu_3009 250 = true := by decide +kernel
theorem zk_3009 : zu_3009.all (zck mi_P zc_3009.2.1 zw_3009 false [] [] (fun d y as t en => zcal zw_3009 d y as t en zs_3009) zc_3009.2.2.2.1.length zc_3009.2.2.2.1 zc_3009.2.2.2.2.2.1 zp_3009 zu_3009 250) = true := by decide +kernel
theorem zt_3009 {S : Nat × (Nat → Int32)} : zCtr mi_P S zTt zc_3009 := by
  have hc : ∀ c ∈ zs_3009, zCtr mi_P S zTt c := by
    intro c hc
    simp only [zs_3009, List.mem_cons, List.not_mem_nil, or_false] at hc
    rcases hc with rfl
    · exact zt_3007
  exact zCtr_of (Om := zTt) (ct := zc_3009) (ps := zp_3009) (fun _ _ _ _ => trivial) rfl hc za_3009 z0_3009 zk_3009
/-- LModel.isWord(J)Z -/
def zw_3010 : zW := .leaf (0, [])
def zq_3010_0 : zPo := ([], [], [], some (.inr (.inr (.inr (.inl (0, 1))))))
def zp_3010 : List (zPo × List (Nat ⊕ (Nat × zL))) := [(zq_3010_0, [])]
def zc_3010 : zCt := (180, 0, [.inr (.inl 469), .inr (.inr (.inr (.inr 0)))], [], [], .leaf (470, 112, 73, .inr 3, [((8, []), .inr (.inr (.inr (.inl (0, 5))))), ((10, []), .inr (.inr (.inr (.inr 0))))]), zw_3010, [], zp_3010.map (fun p => p.1))
def zu_3010 : List zCu := []
def zs_3010 : List zCt := []
theorem za_3010 : zwin zw_3010 zc_3010.2.2.2.2.2.1 = true := by decide +kernel
theorem z0_3010 : zst0 mi_P zw_3010 [] [] (fun d y as t en => zcal zw_3010 d y as t en zs_3010) zc_3010 zp_3010 zu_3010 232 = true := by decide +kernel
theorem zk_3010 : zu_3010.all (zck mi_P zc_3010.2.1 zw_3010 false [] [] (fun d y as t en => zcal zw_3010 d y as t en zs_3010) zc_3010.2.2.2.1.length zc_3010.2.2.2.1 zc_3010.2.2.2.2.2.1 zp_3010 zu_3010 232) = true := by decide +kernel
theorem zt_3010 {S : Nat × (Nat → Int32)} : zCtr mi_P S zTt zc_3010 := by
  have hc : ∀ c ∈ zs_3010, zCtr mi_P S zTt c := fun c hc => by cases hc
  exact zCtr_of (Om := zTt) (ct := zc_3010) (ps := zp_3010) (fun _ _ _ _ => trivial) rfl hc za_3010 z0_3010 zk_3010
/-- LModel.isSignHere(I)Z -/
def zw_3011 : zW := .leaf (0, [])
def zq_3011_0 : zPo := ([], [], [], some (.inr (.inr (.inr (.inl (0, 1))))))
def zp_3011 : List (zPo × List (Nat ⊕ (Nat × zL))) := [(zq_3011_0, [])]
def zc_3011 : zCt := (192, 1, [.inr (.inl 469), zaI], [], [], .branch 471 (.leaf (470, 112, 73, .inr 3, [((1, []), .inr (.inl 471)), ((3, []), .inr (.inr (.inr (.inl (0, 1600))))), ((6, []), .inr (.inr (.inr (.inl (0, 1600))))), ((8, []), .inr (.inr (.inr (.inl (0, 5)))))])) (.leaf (472, 1, 1600, .inl ((-128), 127), [])), zw_3011, [], zp_3011.map (fun p => p.1))
def zu_3011 : List zCu := []
def zs_3011 : List zCt := []
theorem za_3011 : zwin zw_3011 zc_3011.2.2.2.2.2.1 = true := by decide +kernel
theorem z0_3011 : zst0 mi_P zw_3011 [] [] (fun d y as t en => zcal zw_3011 d y as t en zs_3011) zc_3011 zp_3011 zu_3011 280 = true := by decide +kernel
theorem zk_3011 : zu_3011.all (zck mi_P zc_3011.2.1 zw_3011 false [] [] (fun d y as t en => zcal zw_3011 d y as t en zs_3011) zc_3011.2.2.2.1.length zc_3011.2.2.2.1 zc_3011.2.2.2.2.2.1 zp_3011 zu_3011 280) = true := by decide +kernel
theorem zt_3011 {S : Nat × (Nat → Int32)} : zCtr mi_P S zTt zc_3011 := by
  have hc : ∀ c ∈ zs_3011, zCtr mi_P S zTt c := fun c hc => by cases hc
  exact zCtr_of (Om := zTt) (ct := zc_3011) (ps := zp_3011) (fun _ _ _ _ => trivial) rfl hc za_3011 z0_3011 zk_3011
/-- LModel.wordHere()I -/
def zw_3012 : zW := .leaf (0, [])
def zq_3012_0 : zPo := ([], [], [], some (.inl (0, [])))
def zq_3012_1 : zPo := ([], [], [], some (.inr (.inr (.inr (.inl (97, 122))))))
def zp_3012 : List (zPo × List (Nat ⊕ (Nat × zL))) := [(zq_3012_0, []), (zq_3012_1, [])]
def zc_3012 : zCt := (193, 1, [.inr (.inl 469)], [], [], .leaf (470, 112, 73, .inr 3, [((8, []), .inr (.inr (.inr (.inl (0, 5))))), ((10, []), .inr (.inr (.inr (.inr 0))))]), zw_3012, [], zp_3012.map (fun p => p.1))
def zu_3012 : List zCu := []
def zs_3012 : List zCt := [zc_3010]
theorem za_3012 : zwin zw_3012 zc_3012.2.2.2.2.2.1 = true := by decide +kernel
theorem z0_3012 : zst0 mi_P zw_3012 [] [] (fun d y as t en => zcal zw_3012 d y as t en zs_3012) zc_3012 zp_3012 zu_3012 264 = true := by decide +kernel
theorem zk_3012 : zu_3012.all (zck mi_P zc_3012.2.1 zw_3012 false [] [] (fun d y as t en => zcal zw_3012 d y as t en zs_3012) zc_3012.2.2.2.1.length zc_3012.2.2.2.1 zc_3012.2.2.2.2.2.1 zp_3012 zu_3012 264) = true := by decide +kernel
theorem zt_3012 {S : Nat × (Nat → Int32)} : zCtr mi_P S zTt zc_3012 := by
  have hc : ∀ c ∈ zs_3012, zCtr mi_P S zTt c := by
    intro c hc
    simp only [zs_3012, List.mem_cons, List.not_mem_nil, or_false] at hc
    rcases hc with rfl
    · exact zt_3010
  exact zCtr_of (Om := zTt) (ct := zc_3012) (ps := zp_3012) (fun _ _ _ _ => trivial) rfl hc za_3012 z0_3012 zk_3012
