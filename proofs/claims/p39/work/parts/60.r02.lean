/-- LModel.readParty()V -/
def zw_2012 : zW := .branch 481 (.branch 477 (.leaf (467, [4, 5, 6, 7, 8, 9, 10])) (.branch 480 (.leaf (478, [0])) (.leaf (481, [0])))) (.branch 482 (.leaf (482, [0])) (.branch 485 (.leaf (483, [0])) (.leaf (486, [0]))))
def zp_2012 : List (zPo × List (Nat ⊕ (Nat × zL))) := [(([], [], [(466, [((4, []), .inr (.inr (.inr (.inl (1, 4))))), ((5, []), zaI), ((6, []), .inr (.inr (.inr (.inl (0, 1600))))), ((7, []), .inr (.inr (.inr (.inl (0, 1600))))), ((8, []), .inr (.inr (.inr (.inl (0, 5))))), ((9, []), zaI), ((10, []), .inr (.inr (.inr (.inr 0))))]), (477, []), (480, []), (481, []), (482, []), (485, [])], none), []), (([(0, 1600), (0, 1600)], [(1, [(3, 1), (4, (-1))]), (0, [(2, (-1)), (4, 1)]), (1, [(1, 1), (4, (-1))]), (0, [(1, 1), (3, (-1))])], [(466, [((4, []), .inl (0, [])), ((5, []), zaI), ((6, []), .inl (0, [(3, 1)])), ((7, []), .inl (0, [(4, 1)])), ((8, []), .inr (.inr (.inr (.inl (1, 5))))), ((9, []), zaI), ((10, []), .inr (.inr (.inr (.inr 0))))]), (477, []), (480, []), (481, []), (482, []), (485, [])], none), [.inr (466, (6, [])), .inr (466, (7, []))]), (([], [], [(466, [((4, []), .inl (0, [])), ((5, []), zaI), ((6, []), .inl (0, [(2, 1)])), ((7, []), .inl (0, [(2, 1)])), ((8, []), .inl (0, [])), ((9, []), zaI), ((10, []), .inr (.inr (.inr (.inr 0))))]), (477, []), (480, []), (481, []), (482, []), (485, [])], none), [])]
def zc_2012 : zCt := (198, 4, [.inr (.inl 466)], [(0, 1600), (0, 1600), (0, 1600)], [(1, [(0, 1), (1, (-1))]), (0, [(1, 1), (2, (-1))])], .branch 480 (.branch 468 (.leaf (467, 112, 73, .inr 3, [((1, []), .inr (.inl 468)), ((3, []), .inl (0, [(2, 1)])), ((4, []), .inl (0, [])), ((5, []), zaI), ((6, []), .inl (0, [(0, 1)])), ((7, []), .inl (0, [(1, 1)])), ((8, []), .inr (.inr (.inr (.inl (1, 5))))), ((9, []), zaI), ((10, []), .inr (.inr (.inr (.inr 0)))), ((19, []), .inr (.inl 477)), ((22, []), .inr (.inl 480)), ((23, []), .inr (.inl 481)), ((24, []), .inr (.inl 482)), ((27, []), .inr (.inl 485)), ((35, []), .inl (0, []))])) (.branch 477 (.leaf (469, 1, 1600, .inl ((-128), 127), [])) (.leaf (478, 0, 2, .inl (0, 12), [((0, []), .inr (.inr (.inr (.inl (0, 11)))))])))) (.branch 482 (.branch 481 (.leaf (481, 0, 24, .inl ((-2147483648), 2147483647), [])) (.leaf (482, 0, 24, .inl ((-2147483648), 2147483647), []))) (.branch 485 (.leaf (483, 0, 24, .inl ((-2147483648), 2147483647), [])) (.leaf (486, 2, 24, .inl (0, 1), [])))), zw_2012, [.inr (466, (6, [])), .inr (466, (7, [])), .inr (466, (3, []))], zp_2012.map (fun p => p.1))
def zu_2012 : List zCu := []
def zs_2012 : List zCt := [zc_2004, zc_2010, zc_2003, zc_2011]
theorem za_2012 : zwin zw_2012 zc_2012.2.2.2.2.2.1 = true := by decide +kernel
theorem z0_2012 : zst0 mi_P zw_2012 [] [] (fun d y as t en => zcal zw_2012 d y as t en zs_2012) zc_2012 zp_2012 zu_2012 5034 = true := by decide +kernel
theorem zk_2012 : zu_2012.all (zck mi_P zc_2012.2.1 zw_2012 false [] [] (fun d y as t en => zcal zw_2012 d y as t en zs_2012) zc_2012.2.2.2.1.length zc_2012.2.2.2.1 zc_2012.2.2.2.2.2.1 zp_2012 zu_2012 5034) = true := by decide +kernel
theorem zt_2012 {S : Nat × (Nat → Int32)} : zCtr mi_P S zTt zc_2012 := by
  have hc : ∀ c ∈ zs_2012, zCtr mi_P S zTt c := by
    intro c hc
    simp only [zs_2012, List.mem_cons, List.not_mem_nil, or_false] at hc
    rcases hc with rfl | rfl | rfl | rfl
    · exact zt_2004
    · exact zt_2010
    · exact zt_2003
    · exact zt_2011
  exact zCtr_of (Om := zTt) (ct := zc_2012) (ps := zp_2012) (fun _ _ _ _ => trivial) rfl hc za_2012 z0_2012 zk_2012
/-- LModel.readParty()V -/
def zw_2013 : zW := .branch 481 (.branch 477 (.leaf (467, [4, 5])) (.branch 480 (.leaf (478, [0])) (.leaf (481, [0])))) (.branch 482 (.leaf (482, [0])) (.branch 485 (.leaf (483, [0])) (.leaf (486, [0]))))
def zp_2013 : List (zPo × List (Nat ⊕ (Nat × zL))) := [(([], [], [(466, [((4, []), .inr (.inr (.inr (.inl (1, 4))))), ((5, []), zaI)]), (477, []), (480, []), (481, []), (482, []), (485, [])], none), [])]
def zc_2013 : zCt := (198, 3, [.inr (.inl 466)], [(0, 1600)], [], .branch 481 (.branch 477 (.leaf (467, 112, 73, .inr 3, [((3, []), .inl (0, [(0, 1)])), ((4, []), .inl (0, [])), ((5, []), zaI), ((6, []), .inl (0, [(0, 1)])), ((7, []), .inl (0, [(0, 1)])), ((8, []), .inl (0, [])), ((9, []), zaI), ((19, []), .inr (.inl 477)), ((22, []), .inr (.inl 480)), ((23, []), .inr (.inl 481)), ((24, []), .inr (.inl 482)), ((27, []), .inr (.inl 485)), ((35, []), .inl (0, []))])) (.branch 480 (.leaf (478, 0, 2, .inl (0, 12), [((0, []), .inr (.inr (.inr (.inl (0, 11)))))])) (.leaf (481, 0, 24, .inl ((-2147483648), 2147483647), [])))) (.branch 482 (.leaf (482, 0, 24, .inl ((-2147483648), 2147483647), [])) (.branch 485 (.leaf (483, 0, 24, .inl ((-2147483648), 2147483647), [])) (.leaf (486, 2, 24, .inl (0, 1), [])))), zw_2013, [.inr (466, (7, []))], zp_2013.map (fun p => p.1))
def zu_2013 : List zCu := []
def zs_2013 : List zCt := [zc_2005]
theorem za_2013 : zwin zw_2013 zc_2013.2.2.2.2.2.1 = true := by decide +kernel
theorem z0_2013 : zst0 mi_P zw_2013 [] [] (fun d y as t en => zcal zw_2013 d y as t en zs_2013) zc_2013 zp_2013 zu_2013 472 = true := by decide +kernel
theorem zk_2013 : zu_2013.all (zck mi_P zc_2013.2.1 zw_2013 false [] [] (fun d y as t en => zcal zw_2013 d y as t en zs_2013) zc_2013.2.2.2.1.length zc_2013.2.2.2.1 zc_2013.2.2.2.2.2.1 zp_2013 zu_2013 472) = true := by decide +kernel
theorem zt_2013 {S : Nat × (Nat → Int32)} : zCtr mi_P S zTt zc_2013 := by
  have hc : ∀ c ∈ zs_2013, zCtr mi_P S zTt c := by
    intro c hc
    simp only [zs_2013, List.mem_cons, List.not_mem_nil, or_false] at hc
    rcases hc with rfl
    · exact zt_2005
  exact zCtr_of (Om := zTt) (ct := zc_2013) (ps := zp_2013) (fun _ _ _ _ => trivial) rfl hc za_2013 z0_2013 zk_2013
/-- LModel.readSort()V -/
def zw_2015 : zW := .leaf (467, [4, 5])
def zp_2015 : List (zPo × List (Nat ⊕ (Nat × zL))) := [(([], [], [(466, [((4, []), .inr (.inr (.inr (.inl (1, 4))))), ((5, []), zaI)])], none), [])]
def zc_2015 : zCt := (184, 2, [.inr (.inl 466)], [(0, 1600)], [], .branch 476 (.leaf (467, 112, 73, .inr 3, [((3, []), .inl (0, [(0, 1)])), ((4, []), .inl (0, [])), ((5, []), zaI), ((6, []), .inl (0, [(0, 1)])), ((7, []), .inl (0, [(0, 1)])), ((8, []), .inl (0, [])), ((18, []), .inr (.inl 476)), ((35, []), .inl (0, []))])) (.leaf (477, 0, 2, .inl (0, 4), [((0, []), .inr (.inr (.inr (.inl (0, 3)))))])), zw_2015, [.inr (466, (7, []))], zp_2015.map (fun p => p.1))
def zu_2015 : List zCu := [(([(184, 14, [(2, .inl (0, [])), (1, .inl (0, [(1, 1)])), (0, .inr (.inl 466))], [])], .branch 476 (.leaf (467, 112, 73, .inr 3, [((3, []), .inl (0, [(0, 1)])), ((6, []), .inl (0, [(0, 1)])), ((7, []), .inl (0, [(0, 1)])), ((8, []), .inl (0, [])), ((18, []), .inr (.inl 476)), ((35, []), .inl (0, [])), ((4, []), .inl (2, [])), ((5, []), .inl (0, [(0, 1)]))])) (.leaf (477, 0, 2, .inl (0, 4), [((0, []), .inl (0, [(1, 1)]))])), [(0, 1600), (0, 3)], [], []), [.inl (0, 1)], (0, []))]
def zs_2015 : List zCt := []
theorem za_2015 : zwin zw_2015 zc_2015.2.2.2.2.2.1 = true := by decide +kernel
theorem z0_2015 : zst0 mi_P zw_2015 [] [] (fun d y as t en => zcal zw_2015 d y as t en zs_2015) zc_2015 zp_2015 zu_2015 268 = true := by decide +kernel
theorem zk_2015 : zu_2015.all (zck mi_P zc_2015.2.1 zw_2015 false [] [] (fun d y as t en => zcal zw_2015 d y as t en zs_2015) zc_2015.2.2.2.1.length zc_2015.2.2.2.1 zc_2015.2.2.2.2.2.1 zp_2015 zu_2015 268) = true := by decide +kernel
theorem zt_2015 {S : Nat × (Nat → Int32)} : zCtr mi_P S zTt zc_2015 := by
  have hc : ∀ c ∈ zs_2015, zCtr mi_P S zTt c := fun c hc => by cases hc
  exact zCtr_of (Om := zTt) (ct := zc_2015) (ps := zp_2015) (fun _ _ _ _ => trivial) rfl hc za_2015 z0_2015 zk_2015
