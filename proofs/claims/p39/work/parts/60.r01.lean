/-- LModel.readRule(I)V -/
def zw_2007 : zW := .branch 484 (.branch 483 (.leaf (467, [4, 5, 37, 38, 39])) (.leaf (484, [0]))) (.branch 489 (.leaf (485, [0])) (.branch 490 (.leaf (490, [0])) (.leaf (491, [0]))))
def zp_2007 : List (zPo × List (Nat ⊕ (Nat × zL))) := [(([], [], [(466, [((4, []), .inr (.inr (.inr (.inl (1, 4))))), ((5, []), zaI), ((37, []), .inr (.inr (.inr (.inl ((-100), 7))))), ((38, []), .inr (.inr (.inr (.inl (0, 90))))), ((39, []), .inr (.inr (.inr (.inl (0, 30)))))]), (483, []), (484, []), (489, []), (490, [])], none), [])]
def zc_2007 : zCt := (188, 4, [.inr (.inl 466), .inr (.inr (.inr (.inl (0, 3))))], [(0, 1600)], [], .branch 484 (.branch 478 (.leaf (467, 112, 73, .inr 3, [((3, []), .inl (0, [(0, 1)])), ((4, []), .inl (0, [])), ((5, []), zaI), ((6, []), .inl (0, [(0, 1)])), ((7, []), .inl (0, [(0, 1)])), ((8, []), .inl (0, [])), ((20, []), .inr (.inl 478)), ((25, []), .inr (.inl 483)), ((26, []), .inr (.inl 484)), ((31, []), .inr (.inl 489)), ((32, []), .inr (.inl 490)), ((35, []), .inl (1, [])), ((36, []), .inr (.inr (.inr (.inl (0, 1120))))), ((37, []), .inr (.inr (.inr (.inl ((-100), 7))))), ((38, []), .inr (.inr (.inr (.inl (0, 90))))), ((39, []), .inr (.inr (.inr (.inl (0, 30)))))])) (.branch 483 (.leaf (479, 0, 2, .inl (0, 60), [])) (.leaf (484, 0, 8, .inl (0, 1120), [])))) (.branch 489 (.leaf (485, 0, 8, .inl (0, 1120), [])) (.branch 490 (.leaf (490, 0, 90, .inl (0, 8), [])) (.leaf (491, 0, 90, .inl ((-2147483648), 2147483647), [])))), zw_2007, [.inr (466, (7, []))], zp_2007.map (fun p => p.1))
def zu_2007 : List zCu := [(([(189, 12, [(1, .inl (1, [])), (0, .inr (.inl 466))], []), (188, 16, [(0, .inr (.inl 466)), (1, .inl (0, [(1, 1)]))], [])], .branch 484 (.branch 478 (.leaf (467, 112, 73, .inr 3, [((3, []), .inl (0, [(0, 1)])), ((4, []), .inl (0, [(3, 1)])), ((5, []), zaI), ((6, []), .inl (0, [(0, 1)])), ((7, []), .inl (0, [(0, 1)])), ((8, []), .inl (0, [])), ((20, []), .inr (.inl 478)), ((25, []), .inr (.inl 483)), ((26, []), .inr (.inl 484)), ((31, []), .inr (.inl 489)), ((32, []), .inr (.inl 490)), ((35, []), .inl (1, [])), ((39, []), .inl (0, [])), ((36, []), .inl (0, [(2, 1)])), ((37, []), .inl (0, [])), ((38, []), .inl (1, []))])) (.branch 483 (.leaf (479, 0, 2, .inl (0, 60), [])) (.leaf (484, 0, 8, .inl (0, 1120), [((4, [(1, 1)]), .inl (0, [(2, 1)]))])))) (.branch 489 (.leaf (485, 0, 8, .inl (0, 1120), [])) (.branch 490 (.leaf (490, 0, 90, .inl (0, 8), [((0, []), .inl (8, []))])) (.leaf (491, 0, 90, .inl ((-2147483648), 2147483647), [((0, []), .inl (0, []))])))), [(0, 1600), (0, 3), (0, 1120), (0, 2)], [], []), [.inl (1, 1), .inr (.inr (466, (36, []))), .inr (.inr (466, (4, [])))], (2, [(3, (-1))]))]
def zs_2007 : List zCt := []
theorem za_2007 : zwin zw_2007 zc_2007.2.2.2.2.2.1 = true := by decide +kernel
theorem z0_2007 : zst0 mi_P zw_2007 [] [] (fun d y as t en => zcal zw_2007 d y as t en zs_2007) zc_2007 zp_2007 zu_2007 694 = true := by decide +kernel
theorem zk_2007 : zu_2007.all (zck mi_P zc_2007.2.1 zw_2007 false [] [] (fun d y as t en => zcal zw_2007 d y as t en zs_2007) zc_2007.2.2.2.1.length zc_2007.2.2.2.1 zc_2007.2.2.2.2.2.1 zp_2007 zu_2007 694) = true := by decide +kernel
theorem zt_2007 {S : Nat × (Nat → Int32)} : zCtr mi_P S zTt zc_2007 := by
  have hc : ∀ c ∈ zs_2007, zCtr mi_P S zTt c := fun c hc => by cases hc
  exact zCtr_of (Om := zTt) (ct := zc_2007) (ps := zp_2007) (fun _ _ _ _ => trivial) rfl hc za_2007 z0_2007 zk_2007
/-- LModel.after(JII)I -/
def zw_2008 : zW := .leaf (467, [4, 5, 6, 7, 8, 9, 10])
def zp_2008 : List (zPo × List (Nat ⊕ (Nat × zL))) := [(([], [], [(466, [((4, []), .inr (.inr (.inr (.inl (1, 4))))), ((5, []), zaI), ((6, []), .inr (.inr (.inr (.inl (0, 1600))))), ((7, []), .inr (.inr (.inr (.inl (0, 1600))))), ((8, []), .inr (.inr (.inr (.inl (0, 5))))), ((9, []), zaI), ((10, []), .inr (.inr (.inr (.inr 0))))])], some (zaI)), []), (([(0, 1600), (0, 1600)], [(1, [(3, 1), (4, (-1))]), (0, [(2, (-1)), (4, 1)]), (1, [(1, 1), (4, (-1))]), (0, [(1, 1), (3, (-1))])], [(466, [((4, []), .inl (0, [])), ((5, []), zaI), ((6, []), .inl (0, [(3, 1)])), ((7, []), .inl (0, [(4, 1)])), ((8, []), .inr (.inr (.inr (.inl (1, 5))))), ((9, []), zaI), ((10, []), .inr (.inr (.inr (.inr 0))))])], some (zaI)), [.inr (466, (6, [])), .inr (466, (7, []))]), (([], [], [(466, [((4, []), .inl (0, [])), ((5, []), zaI), ((6, []), .inl (0, [(2, 1)])), ((7, []), .inl (0, [(2, 1)])), ((8, []), .inl (0, [])), ((9, []), zaI), ((10, []), .inr (.inr (.inr (.inr 0))))])], some (zaI)), [])]
def zc_2008 : zCt := (185, 3, [.inr (.inl 466), .inr (.inr (.inl (422675899507, []))), zaI, zaI], [(0, 1600), (0, 1600), (0, 1600)], [(1, [(0, 1), (1, (-1))]), (0, [(1, 1), (2, (-1))])], .branch 468 (.leaf (467, 112, 73, .inr 3, [((1, []), .inr (.inl 468)), ((3, []), .inl (0, [(2, 1)])), ((4, []), .inl (0, [])), ((5, []), zaI), ((6, []), .inl (0, [(0, 1)])), ((7, []), .inl (0, [(1, 1)])), ((8, []), .inr (.inr (.inr (.inl (1, 5))))), ((9, []), zaI), ((10, []), .inr (.inr (.inr (.inr 0))))])) (.leaf (469, 1, 1600, .inl ((-128), 127), [])), zw_2008, [.inr (466, (6, [])), .inr (466, (7, [])), .inr (466, (3, []))], zp_2008.map (fun p => p.1))
def zu_2008 : List zCu := []
def zs_2008 : List zCt := [zc_2003, zc_2004, zc_2005]
theorem za_2008 : zwin zw_2008 zc_2008.2.2.2.2.2.1 = true := by decide +kernel
theorem z0_2008 : zst0 mi_P zw_2008 [] [] (fun d y as t en => zcal zw_2008 d y as t en zs_2008) zc_2008 zp_2008 zu_2008 656 = true := by decide +kernel
theorem zk_2008 : zu_2008.all (zck mi_P zc_2008.2.1 zw_2008 false [] [] (fun d y as t en => zcal zw_2008 d y as t en zs_2008) zc_2008.2.2.2.1.length zc_2008.2.2.2.1 zc_2008.2.2.2.2.2.1 zp_2008 zu_2008 656) = true := by decide +kernel
theorem zt_2008 {S : Nat × (Nat → Int32)} : zCtr mi_P S zTt zc_2008 := by
  have hc : ∀ c ∈ zs_2008, zCtr mi_P S zTt c := by
    intro c hc
    simp only [zs_2008, List.mem_cons, List.not_mem_nil, or_false] at hc
    rcases hc with rfl | rfl | rfl
    · exact zt_2003
    · exact zt_2004
    · exact zt_2005
  exact zCtr_of (Om := zTt) (ct := zc_2008) (ps := zp_2008) (fun _ _ _ _ => trivial) rfl hc za_2008 z0_2008 zk_2008
/-- LModel.after(JII)I -/
def zw_2009 : zW := .leaf (467, [4, 5])
def zp_2009 : List (zPo × List (Nat ⊕ (Nat × zL))) := [(([], [], [(466, [((4, []), .inr (.inr (.inr (.inl (1, 4))))), ((5, []), zaI)])], some (zaI)), [])]
def zc_2009 : zCt := (185, 3, [.inr (.inl 466), .inr (.inr (.inl (422675899507, []))), zaI, zaI], [(0, 1600)], [], .leaf (467, 112, 73, .inr 3, [((3, []), .inl (0, [(0, 1)])), ((4, []), .inl (0, [])), ((5, []), zaI), ((6, []), .inl (0, [(0, 1)])), ((7, []), .inl (0, [(0, 1)])), ((8, []), .inl (0, []))]), zw_2009, [.inr (466, (7, []))], zp_2009.map (fun p => p.1))
def zu_2009 : List zCu := []
def zs_2009 : List zCt := []
theorem za_2009 : zwin zw_2009 zc_2009.2.2.2.2.2.1 = true := by decide +kernel
theorem z0_2009 : zst0 mi_P zw_2009 [] [] (fun d y as t en => zcal zw_2009 d y as t en zs_2009) zc_2009 zp_2009 zu_2009 318 = true := by decide +kernel
theorem zk_2009 : zu_2009.all (zck mi_P zc_2009.2.1 zw_2009 false [] [] (fun d y as t en => zcal zw_2009 d y as t en zs_2009) zc_2009.2.2.2.1.length zc_2009.2.2.2.1 zc_2009.2.2.2.2.2.1 zp_2009 zu_2009 318) = true := by decide +kernel
theorem zt_2009 {S : Nat × (Nat → Int32)} : zCtr mi_P S zTt zc_2009 := by
  have hc : ∀ c ∈ zs_2009, zCtr mi_P S zTt c := fun c hc => by cases hc
  exact zCtr_of (Om := zTt) (ct := zc_2009) (ps := zp_2009) (fun _ _ _ _ => trivial) rfl hc za_2009 z0_2009 zk_2009
/-- LModel.after(JII)I -/
def zw_2010 : zW := .leaf (467, [4, 5, 6, 7, 8, 9, 10])
def zp_2010 : List (zPo × List (Nat ⊕ (Nat × zL))) := [(([], [], [(466, [((4, []), .inr (.inr (.inr (.inl (1, 4))))), ((5, []), zaI), ((6, []), .inr (.inr (.inr (.inl (0, 1600))))), ((7, []), .inr (.inr (.inr (.inl (0, 1600))))), ((8, []), .inr (.inr (.inr (.inl (0, 5))))), ((9, []), zaI), ((10, []), .inr (.inr (.inr (.inr 0))))])], some (zaI)), []), (([(0, 1600), (0, 1600)], [(1, [(3, 1), (4, (-1))]), (0, [(2, (-1)), (4, 1)]), (1, [(1, 1), (4, (-1))]), (0, [(1, 1), (3, (-1))])], [(466, [((4, []), .inl (0, [])), ((5, []), zaI), ((6, []), .inl (0, [(3, 1)])), ((7, []), .inl (0, [(4, 1)])), ((8, []), .inr (.inr (.inr (.inl (1, 5))))), ((9, []), zaI), ((10, []), .inr (.inr (.inr (.inr 0))))])], some (zaI)), [.inr (466, (6, [])), .inr (466, (7, []))]), (([], [], [(466, [((4, []), .inl (0, [])), ((5, []), zaI), ((6, []), .inl (0, [(2, 1)])), ((7, []), .inl (0, [(2, 1)])), ((8, []), .inl (0, [])), ((9, []), zaI), ((10, []), .inr (.inr (.inr (.inr 0))))])], some (zaI)), [])]
def zc_2010 : zCt := (185, 3, [.inr (.inl 466), .inr (.inr (.inl (24948, []))), zaI, zaI], [(0, 1600), (0, 1600), (0, 1600)], [(1, [(0, 1), (1, (-1))]), (0, [(1, 1), (2, (-1))])], .branch 468 (.leaf (467, 112, 73, .inr 3, [((1, []), .inr (.inl 468)), ((3, []), .inl (0, [(2, 1)])), ((4, []), .inl (0, [])), ((5, []), zaI), ((6, []), .inl (0, [(0, 1)])), ((7, []), .inl (0, [(1, 1)])), ((8, []), .inr (.inr (.inr (.inl (1, 5))))), ((9, []), zaI), ((10, []), .inr (.inr (.inr (.inr 0))))])) (.leaf (469, 1, 1600, .inl ((-128), 127), [])), zw_2010, [.inr (466, (6, [])), .inr (466, (7, [])), .inr (466, (3, []))], zp_2010.map (fun p => p.1))
def zu_2010 : List zCu := []
def zs_2010 : List zCt := [zc_2003, zc_2004, zc_2005]
theorem za_2010 : zwin zw_2010 zc_2010.2.2.2.2.2.1 = true := by decide +kernel
theorem z0_2010 : zst0 mi_P zw_2010 [] [] (fun d y as t en => zcal zw_2010 d y as t en zs_2010) zc_2010 zp_2010 zu_2010 656 = true := by decide +kernel
theorem zk_2010 : zu_2010.all (zck mi_P zc_2010.2.1 zw_2010 false [] [] (fun d y as t en => zcal zw_2010 d y as t en zs_2010) zc_2010.2.2.2.1.length zc_2010.2.2.2.1 zc_2010.2.2.2.2.2.1 zp_2010 zu_2010 656) = true := by decide +kernel
theorem zt_2010 {S : Nat × (Nat → Int32)} : zCtr mi_P S zTt zc_2010 := by
  have hc : ∀ c ∈ zs_2010, zCtr mi_P S zTt c := by
    intro c hc
    simp only [zs_2010, List.mem_cons, List.not_mem_nil, or_false] at hc
    rcases hc with rfl | rfl | rfl
    · exact zt_2003
    · exact zt_2004
    · exact zt_2005
  exact zCtr_of (Om := zTt) (ct := zc_2010) (ps := zp_2010) (fun _ _ _ _ => trivial) rfl hc za_2010 z0_2010 zk_2010
/-- LModel.after(JII)I -/
def zw_2011 : zW := .leaf (467, [4, 5])
def zp_2011 : List (zPo × List (Nat ⊕ (Nat × zL))) := [(([], [], [(466, [((4, []), .inr (.inr (.inr (.inl (1, 4))))), ((5, []), zaI)])], some (zaI)), [])]
def zc_2011 : zCt := (185, 3, [.inr (.inl 466), .inr (.inr (.inl (24948, []))), zaI, zaI], [(0, 1600)], [], .leaf (467, 112, 73, .inr 3, [((3, []), .inl (0, [(0, 1)])), ((4, []), .inl (0, [])), ((5, []), zaI), ((6, []), .inl (0, [(0, 1)])), ((7, []), .inl (0, [(0, 1)])), ((8, []), .inl (0, []))]), zw_2011, [.inr (466, (7, []))], zp_2011.map (fun p => p.1))
def zu_2011 : List zCu := []
def zs_2011 : List zCt := []
theorem za_2011 : zwin zw_2011 zc_2011.2.2.2.2.2.1 = true := by decide +kernel
theorem z0_2011 : zst0 mi_P zw_2011 [] [] (fun d y as t en => zcal zw_2011 d y as t en zs_2011) zc_2011 zp_2011 zu_2011 318 = true := by decide +kernel
theorem zk_2011 : zu_2011.all (zck mi_P zc_2011.2.1 zw_2011 false [] [] (fun d y as t en => zcal zw_2011 d y as t en zs_2011) zc_2011.2.2.2.1.length zc_2011.2.2.2.1 zc_2011.2.2.2.2.2.1 zp_2011 zu_2011 318) = true := by decide +kernel
theorem zt_2011 {S : Nat × (Nat → Int32)} : zCtr mi_P S zTt zc_2011 := by
  have hc : ∀ c ∈ zs_2011, zCtr mi_P S zTt c := fun c hc => by cases hc
  exact zCtr_of (Om := zTt) (ct := zc_2011) (ps := zp_2011) (fun _ _ _ _ => trivial) rfl hc za_2011 z0_2011 zk_2011
