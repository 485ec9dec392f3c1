/-- LModel.isKept(J)Z -/
def zw_2000 : zW := .leaf (0, [])
def zp_2000 : List (zPo × List (Nat ⊕ (Nat × zL))) := [(([], [], [], some (.inr (.inr (.inr (.inl (0, 1)))))), [])]
def zc_2000 : zCt := (174, 0, [.inr (.inr (.inr (.inr 0)))], [], [], .leaf (0, 0, 0, .inr 3, []), zw_2000, [], zp_2000.map (fun p => p.1))
def zu_2000 : List zCu := []
def zs_2000 : List zCt := []
theorem za_2000 : zwin zw_2000 zc_2000.2.2.2.2.2.1 = true := by decide +kernel
theorem z0_2000 : zst0 mi_P zw_2000 [] [] (fun d y as t en => zcal zw_2000 d y as t en zs_2000) zc_2000 zp_2000 zu_2000 3066 = true := by decide +kernel
theorem zk_2000 : zu_2000.all (zck mi_P zc_2000.2.1 zw_2000 false [] [] (fun d y as t en => zcal zw_2000 d y as t en zs_2000) zc_2000.2.2.2.1.length zc_2000.2.2.2.1 zc_2000.2.2.2.2.2.1 zp_2000 zu_2000 3066) = true := by decide +kernel
theorem zt_2000 {S : Nat × (Nat → Int32)} : zCtr mi_P S zTt zc_2000 := by
  have hc : ∀ c ∈ zs_2000, zCtr mi_P S zTt c := fun c hc => by cases hc
  exact zCtr_of (Om := zTt) (ct := zc_2000) (ps := zp_2000) (fun _ _ _ _ => trivial) rfl hc za_2000 z0_2000 zk_2000
/-- LModel.isSign(I)Z -/
def zw_2001 : zW := .leaf (0, [])
def zp_2001 : List (zPo × List (Nat ⊕ (Nat × zL))) := [(([], [], [], some (.inr (.inr (.inr (.inl (0, 1)))))), [])]
def zc_2001 : zCt := (176, 0, [zaI], [], [], .leaf (0, 0, 0, .inr 3, []), zw_2001, [], zp_2001.map (fun p => p.1))
def zu_2001 : List zCu := []
def zs_2001 : List zCt := []
theorem za_2001 : zwin zw_2001 zc_2001.2.2.2.2.2.1 = true := by decide +kernel
theorem z0_2001 : zst0 mi_P zw_2001 [] [] (fun d y as t en => zcal zw_2001 d y as t en zs_2001) zc_2001 zp_2001 zu_2001 312 = true := by decide +kernel
theorem zk_2001 : zu_2001.all (zck mi_P zc_2001.2.1 zw_2001 false [] [] (fun d y as t en => zcal zw_2001 d y as t en zs_2001) zc_2001.2.2.2.1.length zc_2001.2.2.2.1 zc_2001.2.2.2.2.2.1 zp_2001 zu_2001 312) = true := by decide +kernel
theorem zt_2001 {S : Nat × (Nat → Int32)} : zCtr mi_P S zTt zc_2001 := by
  have hc : ∀ c ∈ zs_2001, zCtr mi_P S zTt c := fun c hc => by cases hc
  exact zCtr_of (Om := zTt) (ct := zc_2001) (ps := zp_2001) (fun _ _ _ _ => trivial) rfl hc za_2001 z0_2001 zk_2001
/-- LModel.goOn()V -/
def zw_2002 : zW := .leaf (467, [6, 7, 8])
def zp_2002 : List (zPo × List (Nat ⊕ (Nat × zL))) := [(([], [], [(466, [((6, []), .inl (0, [(0, 1)])), ((7, []), .inl (0, [(0, 1)])), ((8, []), .inl (0, []))])], none), [])]
def zc_2002 : zCt := (171, 1, [.inr (.inl 466)], [(0, 1600)], [], .leaf (467, 112, 73, .inr 3, [((3, []), .inl (0, [(0, 1)])), ((6, []), .inl (0, [(0, 1)])), ((7, []), .inl (0, [(0, 1)])), ((8, []), .inl (0, []))]), zw_2002, [.inr (466, (7, []))], zp_2002.map (fun p => p.1))
def zu_2002 : List zCu := [(([(171, 4, [(0, .inr (.inl 466))], [])], .leaf (467, 112, 73, .inr 3, [((3, []), .inl (0, [(0, 1)])), ((7, []), .inl (0, [(0, 1)])), ((8, []), .inl (0, [])), ((6, []), .inl (0, [(0, 1)]))]), [(0, 1600)], [], []), [], (0, []))]
def zs_2002 : List zCt := []
theorem za_2002 : zwin zw_2002 zc_2002.2.2.2.2.2.1 = true := by decide +kernel
theorem z0_2002 : zst0 mi_P zw_2002 [] [] (fun d y as t en => zcal zw_2002 d y as t en zs_2002) zc_2002 zp_2002 zu_2002 278 = true := by decide +kernel
theorem zk_2002 : zu_2002.all (zck mi_P zc_2002.2.1 zw_2002 false [] [] (fun d y as t en => zcal zw_2002 d y as t en zs_2002) zc_2002.2.2.2.1.length zc_2002.2.2.2.1 zc_2002.2.2.2.2.2.1 zp_2002 zu_2002 278) = true := by decide +kernel
theorem zt_2002 {S : Nat × (Nat → Int32)} : zCtr mi_P S zTt zc_2002 := by
  have hc : ∀ c ∈ zs_2002, zCtr mi_P S zTt c := fun c hc => by cases hc
  exact zCtr_of (Om := zTt) (ct := zc_2002) (ps := zp_2002) (fun _ _ _ _ => trivial) rfl hc za_2002 z0_2002 zk_2002
/-- LModel.goOn()V -/
def zw_2003 : zW := .leaf (467, [6, 7, 8, 9, 10])
def zp_2003 : List (zPo × List (Nat ⊕ (Nat × zL))) := [(([(0, 1600), (0, 1600)], [(1, [(2, 1), (3, (-1))]), (0, [(1, (-1)), (3, 1)]), (0, [(0, 1), (2, (-1))]), (1, [(0, 1), (3, (-1))])], [(466, [((6, []), .inl (0, [(2, 1)])), ((7, []), .inl (0, [(3, 1)])), ((8, []), .inr (.inr (.inr (.inl (1, 5))))), ((9, []), zaI), ((10, []), .inr (.inr (.inr (.inr 0))))])], none), [.inr (466, (6, [])), .inr (466, (7, []))]), (([], [], [(466, [((6, []), .inl (0, [(1, 1)])), ((7, []), .inl (0, [(1, 1)])), ((8, []), .inl (0, [])), ((9, []), zaI), ((10, []), .inr (.inr (.inr (.inr 0))))])], none), [])]
def zc_2003 : zCt := (171, 1, [.inr (.inl 466)], [(0, 1600), (0, 1600)], [(0, [(0, 1), (1, (-1))])], .branch 468 (.leaf (467, 112, 73, .inr 3, [((1, []), .inr (.inl 468)), ((3, []), .inl (0, [(1, 1)])), ((6, []), .inr (.inr (.inr (.inl (0, 1600))))), ((7, []), .inl (0, [(0, 1)])), ((8, []), .inr (.inr (.inr (.inl (0, 5))))), ((9, []), zaI), ((10, []), .inr (.inr (.inr (.inr 0))))])) (.leaf (469, 1, 1600, .inl ((-128), 127), [])), zw_2003, [.inr (466, (7, [])), .inr (466, (3, []))], zp_2003.map (fun p => p.1))
def zu_2003 : List zCu := [(([(171, 4, [(0, .inr (.inl 466))], [])], .branch 468 (.leaf (467, 112, 73, .inr 3, [((1, []), .inr (.inl 468)), ((3, []), .inl (0, [(1, 1)])), ((7, []), .inl (0, [(0, 1)])), ((8, []), .inr (.inr (.inr (.inl (0, 5))))), ((9, []), zaI), ((10, []), .inr (.inr (.inr (.inr 0)))), ((6, []), .inl (0, [(2, 1)]))])) (.leaf (469, 1, 1600, .inl ((-128), 127), [])), [(0, 1600), (0, 1600), (0, 1600)], [(0, [(0, 1), (1, (-1))]), (0, [(1, (-1)), (2, 1)]), (0, [(0, 1), (2, (-1))])], []), [.inr (.inr (466, (6, [])))], (6403, [(2, (-1))])), (([(171, 59, [(1, .inl (0, [(2, 1)])), (0, .inr (.inl 466))], [])], .branch 468 (.leaf (467, 112, 73, .inr 3, [((1, []), .inr (.inl 468)), ((3, []), .inl (0, [(1, 1)])), ((8, []), .inr (.inr (.inr (.inl (0, 5))))), ((9, []), zaI), ((10, []), .inr (.inr (.inr (.inr 0)))), ((6, []), .inl (0, [(3, 1)])), ((7, []), .inl (0, [(4, 1)]))])) (.leaf (469, 1, 1600, .inl ((-128), 127), [])), [(0, 1599), (1, 1600), (97, 122), (0, 1599), (1, 1600)], [(0, [(0, 1), (1, (-1))]), (1, [(0, 1), (1, (-1))]), (1, [(1, (-1)), (3, 1)]), (0, [(0, 1), (3, (-1))]), (0, [(1, (-1)), (4, 1)]), (1, [(3, 1), (4, (-1))]), (1, [(0, 1), (4, (-1))])], []), [.inl (0, 1), .inr (.inr (466, (6, []))), .inr (.inr (466, (7, [])))], (4802, [(4, (-1))])), (([(171, 130, [(1, .inl (0, [(2, 1)])), (0, .inr (.inl 466))], [])], .branch 468 (.leaf (467, 112, 73, .inr 3, [((1, []), .inr (.inl 468)), ((3, []), .inl (0, [(1, 1)])), ((8, []), .inr (.inr (.inr (.inl (0, 5))))), ((10, []), .inr (.inr (.inr (.inr 0)))), ((6, []), .inl (0, [(3, 1)])), ((9, []), zaI), ((7, []), .inl (0, [(4, 1)]))])) (.leaf (469, 1, 1600, .inl ((-128), 127), [])), [(0, 1599), (1, 1600), (48, 57), (0, 1599), (1, 1600)], [(0, [(0, 1), (1, (-1))]), (1, [(0, 1), (1, (-1))]), (1, [(1, (-1)), (3, 1)]), (0, [(0, 1), (3, (-1))]), (0, [(1, (-1)), (4, 1)]), (1, [(3, 1), (4, (-1))]), (1, [(0, 1), (4, (-1))])], []), [.inl (0, 1), .inr (.inr (466, (6, []))), .inr (.inr (466, (7, [])))], (1600, [(4, (-1))])), (([(171, 78, [(2, .inl (0, [(5, 1)])), (1, .inl (0, [(2, 1)])), (0, .inr (.inl 466))], [])], .branch 468 (.leaf (467, 112, 73, .inr 3, [((1, []), .inr (.inl 468)), ((3, []), .inl (0, [(1, 1)])), ((8, []), .inr (.inr (.inr (.inl (0, 5))))), ((9, []), zaI), ((6, []), .inl (0, [(3, 1)])), ((7, []), .inl (0, [(4, 1)])), ((10, []), .inr (.inr (.inr (.inr 0))))])) (.leaf (469, 1, 1600, .inl ((-128), 127), [])), [(0, 1599), (1, 1600), (97, 122), (0, 1599), (1, 1600), (0, 1600)], [(0, [(0, 1), (1, (-1))]), (1, [(0, 1), (1, (-1))]), (1, [(1, (-1)), (3, 1)]), (0, [(0, 1), (3, (-1))]), (0, [(1, (-1)), (4, 1)]), (1, [(3, 1), (4, (-1))]), (1, [(0, 1), (4, (-1))]), (0, [(1, (-1)), (5, 1)]), (0, [(3, 1), (5, (-1))]), (0, [(4, (-1)), (5, 1)]), (0, [(0, 1), (5, (-1))])], []), [.inl (0, 1), .inr (.inr (466, (6, []))), .inr (.inr (466, (7, []))), .inl (0, 2)], (3201, [(5, (-1))]))]
def zs_2003 : List zCt := [zc_2001, zc_2000]
theorem za_2003 : zwin zw_2003 zc_2003.2.2.2.2.2.1 = true := by decide +kernel
theorem z0_2003 : zst0 mi_P zw_2003 [] [] (fun d y as t en => zcal zw_2003 d y as t en zs_2003) zc_2003 zp_2003 zu_2003 890 = true := by decide +kernel
theorem zk_2003 : zu_2003.all (zck mi_P zc_2003.2.1 zw_2003 false [] [] (fun d y as t en => zcal zw_2003 d y as t en zs_2003) zc_2003.2.2.2.1.length zc_2003.2.2.2.1 zc_2003.2.2.2.2.2.1 zp_2003 zu_2003 890) = true := by decide +kernel
theorem zt_2003 {S : Nat × (Nat → Int32)} : zCtr mi_P S zTt zc_2003 := by
  have hc : ∀ c ∈ zs_2003, zCtr mi_P S zTt c := by
    intro c hc
    simp only [zs_2003, List.mem_cons, List.not_mem_nil, or_false] at hc
    rcases hc with rfl | rfl
    · exact zt_2001
    · exact zt_2000
  exact zCtr_of (Om := zTt) (ct := zc_2003) (ps := zp_2003) (fun _ _ _ _ => trivial) rfl hc za_2003 z0_2003 zk_2003
/-- LModel.numeral(II)I -/
def zw_2004 : zW := .leaf (467, [4, 5, 6, 7, 8, 9, 10])
def zp_2004 : List (zPo × List (Nat ⊕ (Nat × zL))) := [(([], [], [(466, [((4, []), .inr (.inr (.inr (.inl (1, 4))))), ((5, []), zaI), ((6, []), .inr (.inr (.inr (.inl (0, 1600))))), ((7, []), .inr (.inr (.inr (.inl (0, 1600))))), ((8, []), .inr (.inr (.inr (.inl (0, 5))))), ((9, []), zaI), ((10, []), .inr (.inr (.inr (.inr 0))))])], some (zaI)), []), (([(0, 1600), (0, 1600)], [(1, [(3, 1), (4, (-1))]), (0, [(2, (-1)), (4, 1)]), (1, [(1, 1), (4, (-1))]), (0, [(1, 1), (3, (-1))])], [(466, [((4, []), .inl (0, [])), ((5, []), zaI), ((6, []), .inl (0, [(3, 1)])), ((7, []), .inl (0, [(4, 1)])), ((8, []), .inr (.inr (.inr (.inl (1, 5))))), ((9, []), zaI), ((10, []), .inr (.inr (.inr (.inr 0))))])], some (zaI)), [.inr (466, (6, [])), .inr (466, (7, []))]), (([], [], [(466, [((4, []), .inl (0, [])), ((5, []), zaI), ((6, []), .inl (0, [(2, 1)])), ((7, []), .inl (0, [(2, 1)])), ((8, []), .inl (0, [])), ((9, []), zaI), ((10, []), .inr (.inr (.inr (.inr 0))))])], some (zaI)), [])]
def zc_2004 : zCt := (187, 2, [.inr (.inl 466), zaI, zaI], [(0, 1600), (0, 1600), (0, 1600)], [(1, [(0, 1), (1, (-1))]), (0, [(1, 1), (2, (-1))])], .branch 468 (.leaf (467, 112, 73, .inr 3, [((1, []), .inr (.inl 468)), ((3, []), .inl (0, [(2, 1)])), ((4, []), .inl (0, [])), ((5, []), zaI), ((6, []), .inl (0, [(0, 1)])), ((7, []), .inl (0, [(1, 1)])), ((8, []), .inr (.inr (.inr (.inl (1, 5))))), ((9, []), zaI), ((10, []), .inr (.inr (.inr (.inr 0))))])) (.leaf (469, 1, 1600, .inl ((-128), 127), [])), zw_2004, [.inr (466, (6, [])), .inr (466, (7, [])), .inr (466, (3, []))], zp_2004.map (fun p => p.1))
def zu_2004 : List zCu := []
def zs_2004 : List zCt := [zc_2003]
theorem za_2004 : zwin zw_2004 zc_2004.2.2.2.2.2.1 = true := by decide +kernel
theorem z0_2004 : zst0 mi_P zw_2004 [] [] (fun d y as t en => zcal zw_2004 d y as t en zs_2004) zc_2004 zp_2004 zu_2004 660 = true := by decide +kernel
theorem zk_2004 : zu_2004.all (zck mi_P zc_2004.2.1 zw_2004 false [] [] (fun d y as t en => zcal zw_2004 d y as t en zs_2004) zc_2004.2.2.2.1.length zc_2004.2.2.2.1 zc_2004.2.2.2.2.2.1 zp_2004 zu_2004 660) = true := by decide +kernel
theorem zt_2004 {S : Nat × (Nat → Int32)} : zCtr mi_P S zTt zc_2004 := by
  have hc : ∀ c ∈ zs_2004, zCtr mi_P S zTt c := by
    intro c hc
    simp only [zs_2004, List.mem_cons, List.not_mem_nil, or_false] at hc
    rcases hc with rfl
    · exact zt_2003
  exact zCtr_of (Om := zTt) (ct := zc_2004) (ps := zp_2004) (fun _ _ _ _ => trivial) rfl hc za_2004 z0_2004 zk_2004
/-- LModel.numeral(II)I -/
def zw_2005 : zW := .leaf (467, [4, 5])
def zp_2005 : List (zPo × List (Nat ⊕ (Nat × zL))) := [(([], [], [(466, [((4, []), .inr (.inr (.inr (.inl (1, 4))))), ((5, []), zaI)])], some (zaI)), [])]
def zc_2005 : zCt := (187, 2, [.inr (.inl 466), zaI, zaI], [(0, 1600)], [], .leaf (467, 112, 73, .inr 3, [((3, []), .inl (0, [(0, 1)])), ((4, []), .inl (0, [])), ((5, []), zaI), ((6, []), .inl (0, [(0, 1)])), ((7, []), .inl (0, [(0, 1)])), ((8, []), .inl (0, [])), ((9, []), zaI)]), zw_2005, [.inr (466, (7, []))], zp_2005.map (fun p => p.1))
def zu_2005 : List zCu := []
def zs_2005 : List zCt := []
theorem za_2005 : zwin zw_2005 zc_2005.2.2.2.2.2.1 = true := by decide +kernel
theorem z0_2005 : zst0 mi_P zw_2005 [] [] (fun d y as t en => zcal zw_2005 d y as t en zs_2005) zc_2005 zp_2005 zu_2005 326 = true := by decide +kernel
theorem zk_2005 : zu_2005.all (zck mi_P zc_2005.2.1 zw_2005 false [] [] (fun d y as t en => zcal zw_2005 d y as t en zs_2005) zc_2005.2.2.2.1.length zc_2005.2.2.2.1 zc_2005.2.2.2.2.2.1 zp_2005 zu_2005 326) = true := by decide +kernel
theorem zt_2005 {S : Nat × (Nat → Int32)} : zCtr mi_P S zTt zc_2005 := by
  have hc : ∀ c ∈ zs_2005, zCtr mi_P S zTt c := fun c hc => by cases hc
  exact zCtr_of (Om := zTt) (ct := zc_2005) (ps := zp_2005) (fun _ _ _ _ => trivial) rfl hc za_2005 z0_2005 zk_2005
/-- LModel.readRule(I)V -/
def zw_2006 : zW := .branch 484 (.branch 483 (.leaf (467, [4, 5, 37, 38, 39])) (.leaf (484, [0]))) (.branch 489 (.leaf (485, [0])) (.branch 490 (.leaf (490, [0])) (.leaf (491, [0]))))
def zp_2006 : List (zPo × List (Nat ⊕ (Nat × zL))) := [(([], [], [(466, [((4, []), .inr (.inr (.inr (.inl (1, 4))))), ((5, []), zaI), ((37, []), .inr (.inr (.inr (.inl ((-100), 7))))), ((38, []), .inr (.inr (.inr (.inl (0, 90))))), ((39, []), .inr (.inr (.inr (.inl (0, 30)))))]), (483, []), (484, []), (489, []), (490, [])], none), [])]
def zc_2006 : zCt := (188, 4, [.inr (.inl 466), .inr (.inr (.inr (.inl (0, 3))))], [(0, 1600)], [], .branch 484 (.branch 478 (.leaf (467, 112, 73, .inr 3, [((3, []), .inl (0, [(0, 1)])), ((4, []), .inl (0, [])), ((5, []), zaI), ((6, []), .inl (0, [(0, 1)])), ((7, []), .inl (0, [(0, 1)])), ((8, []), .inl (0, [])), ((20, []), .inr (.inl 478)), ((25, []), .inr (.inl 483)), ((26, []), .inr (.inl 484)), ((31, []), .inr (.inl 489)), ((32, []), .inr (.inl 490)), ((35, []), .inl (0, [])), ((36, []), .inr (.inr (.inr (.inl (0, 1120))))), ((37, []), .inr (.inr (.inr (.inl ((-100), 7))))), ((38, []), .inr (.inr (.inr (.inl (0, 90))))), ((39, []), .inr (.inr (.inr (.inl (0, 30)))))])) (.branch 483 (.leaf (479, 0, 2, .inl (0, 60), [])) (.leaf (484, 0, 8, .inl (0, 1120), [])))) (.branch 489 (.leaf (485, 0, 8, .inl (0, 1120), [])) (.branch 490 (.leaf (490, 0, 90, .inl (0, 8), [])) (.leaf (491, 0, 90, .inl ((-2147483648), 2147483647), [])))), zw_2006, [.inr (466, (7, []))], zp_2006.map (fun p => p.1))
def zu_2006 : List zCu := [(([(189, 12, [(1, .inl (1, [])), (0, .inr (.inl 466))], []), (188, 16, [(0, .inr (.inl 466)), (1, .inl (0, [(1, 1)]))], [])], .branch 484 (.branch 478 (.leaf (467, 112, 73, .inr 3, [((3, []), .inl (0, [(0, 1)])), ((4, []), .inl (0, [(3, 1)])), ((5, []), zaI), ((6, []), .inl (0, [(0, 1)])), ((7, []), .inl (0, [(0, 1)])), ((8, []), .inl (0, [])), ((20, []), .inr (.inl 478)), ((25, []), .inr (.inl 483)), ((26, []), .inr (.inl 484)), ((31, []), .inr (.inl 489)), ((32, []), .inr (.inl 490)), ((35, []), .inl (0, [])), ((39, []), .inl (0, [])), ((36, []), .inl (0, [(2, 1)])), ((37, []), .inl (0, [])), ((38, []), .inl (1, []))])) (.branch 483 (.leaf (479, 0, 2, .inl (0, 60), [])) (.leaf (484, 0, 8, .inl (0, 1120), [((0, [(1, 1)]), .inl (0, [(2, 1)]))])))) (.branch 489 (.leaf (485, 0, 8, .inl (0, 1120), [])) (.branch 490 (.leaf (490, 0, 90, .inl (0, 8), [((0, []), .inl (8, []))])) (.leaf (491, 0, 90, .inl ((-2147483648), 2147483647), [((0, []), .inl (0, []))])))), [(0, 1600), (0, 3), (0, 1120), (0, 2)], [], []), [.inl (1, 1), .inr (.inr (466, (36, []))), .inr (.inr (466, (4, [])))], (2, [(3, (-1))]))]
def zs_2006 : List zCt := []
theorem za_2006 : zwin zw_2006 zc_2006.2.2.2.2.2.1 = true := by decide +kernel
theorem z0_2006 : zst0 mi_P zw_2006 [] [] (fun d y as t en => zcal zw_2006 d y as t en zs_2006) zc_2006 zp_2006 zu_2006 694 = true := by decide +kernel
theorem zk_2006 : zu_2006.all (zck mi_P zc_2006.2.1 zw_2006 false [] [] (fun d y as t en => zcal zw_2006 d y as t en zs_2006) zc_2006.2.2.2.1.length zc_2006.2.2.2.1 zc_2006.2.2.2.2.2.1 zp_2006 zu_2006 694) = true := by decide +kernel
theorem zt_2006 {S : Nat × (Nat → Int32)} : zCtr mi_P S zTt zc_2006 := by
  have hc : ∀ c ∈ zs_2006, zCtr mi_P S zTt c := fun c hc => by cases hc
  exact zCtr_of (Om := zTt) (ct := zc_2006) (ps := zp_2006) (fun _ _ _ _ => trivial) rfl hc za_2006 z0_2006 zk_2006
