/-- LModel.peopleIn()I -/
def zw_2000 : zW := .leaf (0, [])
def zp_2000 : List (zPo × List (Nat ⊕ (Nat × zL))) := [(([], [], [], some (zaI)), [])]
def zc_2000 : zCt := (205, 1, [.inr (.inl 469)], [], [], .branch 483 (.branch 480 (.leaf (470, 112, 73, .inr 3, [((19, []), .inr (.inl 480)), ((22, []), .inr (.inl 483)), ((34, []), .inr (.inr (.inr (.inl (0, 1))))), ((40, []), .inr (.inl 495))])) (.leaf (481, 0, 2, .inl (0, 12), []))) (.branch 495 (.leaf (484, 0, 24, .inl ((-2147483648), 2147483647), [])) (.leaf (496, 0, 69, .inr 2, []))), zw_2000, [], zp_2000.map (fun p => p.1))
def zu_2000 : List zCu := [(([(205, 4, [(2, .inl (0, [(0, 1)])), (1, .inl (0, [(1, 1)])), (0, .inr (.inl 469))], [])], .branch 483 (.branch 480 (.leaf (470, 112, 73, .inr 3, [((19, []), .inr (.inl 480)), ((22, []), .inr (.inl 483)), ((34, []), .inr (.inr (.inr (.inl (0, 1))))), ((40, []), .inr (.inl 495))])) (.leaf (481, 0, 2, .inl (0, 12), []))) (.branch 495 (.leaf (484, 0, 24, .inl ((-2147483648), 2147483647), [])) (.leaf (496, 0, 69, .inr 2, []))), [(0, 12), ((-2147483648), 2147483647)], [], []), [.inl (0, 2), .inl (0, 1)], (12, [(0, (-1))]))]
def zs_2000 : List zCt := []
theorem za_2000 : zwin zw_2000 zc_2000.2.2.2.2.2.1 = true := by decide +kernel
theorem z0_2000 : zst0 mi_P zw_2000 [] [] (fun d y as t en => zcal zw_2000 d y as t en zs_2000) zc_2000 zp_2000 zu_2000 280 = true := by decide +kernel
theorem zk_2000 : zu_2000.all (zck mi_P zc_2000.2.1 zw_2000 false [] [] (fun d y as t en => zcal zw_2000 d y as t en zs_2000) zc_2000.2.2.2.1.length zc_2000.2.2.2.1 zc_2000.2.2.2.2.2.1 zp_2000 zu_2000 280) = true := by decide +kernel
theorem zt_2000 {S : Nat × (Nat → Int32)} : zCtr mi_P S zTt zc_2000 := by
  have hc : ∀ c ∈ zs_2000, zCtr mi_P S zTt c := fun c hc => by cases hc
  exact zCtr_of (Om := zTt) (ct := zc_2000) (ps := zp_2000) (fun _ _ _ _ => trivial) rfl hc za_2000 z0_2000 zk_2000
/-- LModel.taken()I -/
def zw_2001 : zW := .leaf (0, [])
def zp_2001 : List (zPo × List (Nat ⊕ (Nat × zL))) := [(([], [], [], some (zaI)), [])]
def zc_2001 : zCt := (221, 1, [.inr (.inl 469)], [], [], .branch 484 (.branch 480 (.leaf (470, 112, 73, .inr 3, [((19, []), .inr (.inl 480)), ((23, []), .inr (.inl 484)), ((34, []), .inr (.inr (.inr (.inl (0, 1))))), ((40, []), .inr (.inl 495))])) (.leaf (481, 0, 2, .inl (0, 12), []))) (.branch 495 (.leaf (485, 0, 24, .inl ((-2147483648), 2147483647), [])) (.leaf (496, 0, 69, .inr 2, []))), zw_2001, [], zp_2001.map (fun p => p.1))
def zu_2001 : List zCu := [(([(221, 4, [(2, .inl (0, [(0, 1)])), (1, .inl (0, [(1, 1)])), (0, .inr (.inl 469))], [])], .branch 484 (.branch 480 (.leaf (470, 112, 73, .inr 3, [((19, []), .inr (.inl 480)), ((23, []), .inr (.inl 484)), ((34, []), .inr (.inr (.inr (.inl (0, 1))))), ((40, []), .inr (.inl 495))])) (.leaf (481, 0, 2, .inl (0, 12), []))) (.branch 495 (.leaf (485, 0, 24, .inl ((-2147483648), 2147483647), [])) (.leaf (496, 0, 69, .inr 2, []))), [(0, 12), ((-2147483648), 2147483647)], [], []), [.inl (0, 2), .inl (0, 1)], (12, [(0, (-1))]))]
def zs_2001 : List zCt := []
theorem za_2001 : zwin zw_2001 zc_2001.2.2.2.2.2.1 = true := by decide +kernel
theorem z0_2001 : zst0 mi_P zw_2001 [] [] (fun d y as t en => zcal zw_2001 d y as t en zs_2001) zc_2001 zp_2001 zu_2001 280 = true := by decide +kernel
theorem zk_2001 : zu_2001.all (zck mi_P zc_2001.2.1 zw_2001 false [] [] (fun d y as t en => zcal zw_2001 d y as t en zs_2001) zc_2001.2.2.2.1.length zc_2001.2.2.2.1 zc_2001.2.2.2.2.2.1 zp_2001 zu_2001 280) = true := by decide +kernel
theorem zt_2001 {S : Nat × (Nat → Int32)} : zCtr mi_P S zTt zc_2001 := by
  have hc : ∀ c ∈ zs_2001, zCtr mi_P S zTt c := fun c hc => by cases hc
  exact zCtr_of (Om := zTt) (ct := zc_2001) (ps := zp_2001) (fun _ _ _ _ => trivial) rfl hc za_2001 z0_2001 zk_2001
/-- LModel.drawNext()I -/
def zw_2002 : zW := .leaf (496, [0])
def zp_2002 : List (zPo × List (Nat ⊕ (Nat × zL))) := [(([], [], [(495, [])], some (.inr (.inr (.inr (.inl ((-99), 99)))))), [])]
def zc_2002 : zCt := (218, 0, [.inr (.inl 469)], [], [], .branch 495 (.leaf (470, 112, 73, .inr 3, [((40, []), .inr (.inl 495))])) (.leaf (496, 0, 69, .inr 2, [])), zw_2002, [], zp_2002.map (fun p => p.1))
def zu_2002 : List zCu := []
def zs_2002 : List zCt := []
theorem za_2002 : zwin zw_2002 zc_2002.2.2.2.2.2.1 = true := by decide +kernel
theorem z0_2002 : zst0 mi_P zw_2002 [] [] (fun d y as t en => zcal zw_2002 d y as t en zs_2002) zc_2002 zp_2002 zu_2002 240 = true := by decide +kernel
theorem zk_2002 : zu_2002.all (zck mi_P zc_2002.2.1 zw_2002 false [] [] (fun d y as t en => zcal zw_2002 d y as t en zs_2002) zc_2002.2.2.2.1.length zc_2002.2.2.2.1 zc_2002.2.2.2.2.2.1 zp_2002 zu_2002 240) = true := by decide +kernel
theorem zt_2002 {S : Nat × (Nat → Int32)} : zCtr mi_P S zTt zc_2002 := by
  have hc : ∀ c ∈ zs_2002, zCtr mi_P S zTt c := fun c hc => by cases hc
  exact zCtr_of (Om := zTt) (ct := zc_2002) (ps := zp_2002) (fun _ _ _ _ => trivial) rfl hc za_2002 z0_2002 zk_2002
/-- LModel.firstOf(IZ)I -/
def zw_2003 : zW := .leaf (0, [])
def zp_2003 : List (zPo × List (Nat ⊕ (Nat × zL))) := [(([], [], [], some (.inr (.inr (.inr (.inl ((-1), 11)))))), [])]
def zc_2003 : zCt := (216, 1, [.inr (.inl 469), .inl (1, []), .inl (0, [])], [], [], .branch 488 (.branch 480 (.leaf (470, 112, 73, .inr 3, [((19, []), .inr (.inl 480)), ((27, []), .inr (.inl 488)), ((34, []), .inr (.inr (.inr (.inl (0, 1))))), ((40, []), .inr (.inl 495)), ((41, []), .inr (.inl 496))])) (.leaf (481, 0, 2, .inl (0, 12), []))) (.branch 495 (.leaf (489, 2, 24, .inl (0, 1), [])) (.branch 496 (.leaf (496, 0, 69, .inr 2, [])) (.leaf (497, 0, 12, .inl ((-2147483648), 2147483647), [])))), zw_2003, [], zp_2003.map (fun p => p.1))
def zu_2003 : List zCu := [(([(216, 4, [(4, .inl (0, [(0, 1)])), (3, .inl (0, [(1, 1)])), (0, .inr (.inl 469)), (1, .inl (1, [])), (2, .inl (0, []))], [])], .branch 488 (.branch 480 (.leaf (470, 112, 73, .inr 3, [((19, []), .inr (.inl 480)), ((27, []), .inr (.inl 488)), ((34, []), .inr (.inr (.inr (.inl (0, 1))))), ((40, []), .inr (.inl 495)), ((41, []), .inr (.inl 496))])) (.leaf (481, 0, 2, .inl (0, 12), []))) (.branch 495 (.leaf (489, 2, 24, .inl (0, 1), [])) (.branch 496 (.leaf (496, 0, 69, .inr 2, [])) (.leaf (497, 0, 12, .inl ((-2147483648), 2147483647), [])))), [(0, 12), ((-1), 11)], [], []), [.inl (0, 4), .inl (0, 3)], (12, [(0, (-1))]))]
def zs_2003 : List zCt := []
theorem za_2003 : zwin zw_2003 zc_2003.2.2.2.2.2.1 = true := by decide +kernel
theorem z0_2003 : zst0 mi_P zw_2003 [] [] (fun d y as t en => zcal zw_2003 d y as t en zs_2003) zc_2003 zp_2003 zu_2003 324 = true := by decide +kernel
theorem zk_2003 : zu_2003.all (zck mi_P zc_2003.2.1 zw_2003 false [] [] (fun d y as t en => zcal zw_2003 d y as t en zs_2003) zc_2003.2.2.2.1.length zc_2003.2.2.2.1 zc_2003.2.2.2.2.2.1 zp_2003 zu_2003 324) = true := by decide +kernel
theorem zt_2003 {S : Nat × (Nat → Int32)} : zCtr mi_P S zTt zc_2003 := by
  have hc : ∀ c ∈ zs_2003, zCtr mi_P S zTt c := fun c hc => by cases hc
  exact zCtr_of (Om := zTt) (ct := zc_2003) (ps := zp_2003) (fun _ _ _ _ => trivial) rfl hc za_2003 z0_2003 zk_2003
/-- LModel.firstOf(IZ)I -/
def zw_2004 : zW := .leaf (0, [])
def zp_2004 : List (zPo × List (Nat ⊕ (Nat × zL))) := [(([], [], [], some (.inr (.inr (.inr (.inl ((-1), 11)))))), [])]
def zc_2004 : zCt := (216, 1, [.inr (.inl 469), .inl (1, []), .inl (1, [])], [], [], .branch 488 (.branch 480 (.leaf (470, 112, 73, .inr 3, [((19, []), .inr (.inl 480)), ((27, []), .inr (.inl 488)), ((34, []), .inr (.inr (.inr (.inl (0, 1))))), ((40, []), .inr (.inl 495)), ((41, []), .inr (.inl 496))])) (.leaf (481, 0, 2, .inl (0, 12), []))) (.branch 495 (.leaf (489, 2, 24, .inl (0, 1), [])) (.branch 496 (.leaf (496, 0, 69, .inr 2, [])) (.leaf (497, 0, 12, .inl ((-2147483648), 2147483647), [])))), zw_2004, [], zp_2004.map (fun p => p.1))
def zu_2004 : List zCu := [(([(216, 4, [(4, .inl (0, [(0, 1)])), (3, .inl (0, [(1, 1)])), (0, .inr (.inl 469)), (1, .inl (1, [])), (2, .inl (1, []))], [])], .branch 488 (.branch 480 (.leaf (470, 112, 73, .inr 3, [((19, []), .inr (.inl 480)), ((27, []), .inr (.inl 488)), ((34, []), .inr (.inr (.inr (.inl (0, 1))))), ((40, []), .inr (.inl 495)), ((41, []), .inr (.inl 496))])) (.leaf (481, 0, 2, .inl (0, 12), []))) (.branch 495 (.leaf (489, 2, 24, .inl (0, 1), [])) (.branch 496 (.leaf (496, 0, 69, .inr 2, [])) (.leaf (497, 0, 12, .inl ((-2147483648), 2147483647), [])))), [(0, 12), ((-1), 11)], [], []), [.inl (0, 4), .inl (0, 3)], (12, [(0, (-1))]))]
def zs_2004 : List zCt := []
theorem za_2004 : zwin zw_2004 zc_2004.2.2.2.2.2.1 = true := by decide +kernel
theorem z0_2004 : zst0 mi_P zw_2004 [] [] (fun d y as t en => zcal zw_2004 d y as t en zs_2004) zc_2004 zp_2004 zu_2004 324 = true := by decide +kernel
theorem zk_2004 : zu_2004.all (zck mi_P zc_2004.2.1 zw_2004 false [] [] (fun d y as t en => zcal zw_2004 d y as t en zs_2004) zc_2004.2.2.2.1.length zc_2004.2.2.2.1 zc_2004.2.2.2.2.2.1 zp_2004 zu_2004 324) = true := by decide +kernel
theorem zt_2004 {S : Nat × (Nat → Int32)} : zCtr mi_P S zTt zc_2004 := by
  have hc : ∀ c ∈ zs_2004, zCtr mi_P S zTt c := fun c hc => by cases hc
  exact zCtr_of (Om := zTt) (ct := zc_2004) (ps := zp_2004) (fun _ _ _ _ => trivial) rfl hc za_2004 z0_2004 zk_2004
/-- LModel.firstOf(IZ)I -/
def zw_2005 : zW := .leaf (0, [])
def zp_2005 : List (zPo × List (Nat ⊕ (Nat × zL))) := [(([], [], [], some (.inr (.inr (.inr (.inl ((-1), 11)))))), [])]
def zc_2005 : zCt := (216, 1, [.inr (.inl 469), .inl (2, []), .inl (0, [])], [], [], .branch 488 (.branch 480 (.leaf (470, 112, 73, .inr 3, [((19, []), .inr (.inl 480)), ((27, []), .inr (.inl 488)), ((34, []), .inr (.inr (.inr (.inl (0, 1))))), ((40, []), .inr (.inl 495))])) (.leaf (481, 0, 2, .inl (0, 12), []))) (.branch 495 (.leaf (489, 2, 24, .inl (0, 1), [])) (.leaf (496, 0, 69, .inr 2, []))), zw_2005, [], zp_2005.map (fun p => p.1))
def zu_2005 : List zCu := [(([(216, 4, [(4, .inl (0, [(0, 1)])), (3, .inl (0, [(1, 1)])), (0, .inr (.inl 469)), (1, .inl (2, [])), (2, .inl (0, []))], [])], .branch 488 (.branch 480 (.leaf (470, 112, 73, .inr 3, [((19, []), .inr (.inl 480)), ((27, []), .inr (.inl 488)), ((34, []), .inr (.inr (.inr (.inl (0, 1))))), ((40, []), .inr (.inl 495))])) (.leaf (481, 0, 2, .inl (0, 12), []))) (.branch 495 (.leaf (489, 2, 24, .inl (0, 1), [])) (.leaf (496, 0, 69, .inr 2, []))), [(0, 12), ((-1), 11)], [], []), [.inl (0, 4), .inl (0, 3)], (12, [(0, (-1))]))]
def zs_2005 : List zCt := []
theorem za_2005 : zwin zw_2005 zc_2005.2.2.2.2.2.1 = true := by decide +kernel
theorem z0_2005 : zst0 mi_P zw_2005 [] [] (fun d y as t en => zcal zw_2005 d y as t en zs_2005) zc_2005 zp_2005 zu_2005 330 = true := by decide +kernel
theorem zk_2005 : zu_2005.all (zck mi_P zc_2005.2.1 zw_2005 false [] [] (fun d y as t en => zcal zw_2005 d y as t en zs_2005) zc_2005.2.2.2.1.length zc_2005.2.2.2.1 zc_2005.2.2.2.2.2.1 zp_2005 zu_2005 330) = true := by decide +kernel
theorem zt_2005 {S : Nat × (Nat → Int32)} : zCtr mi_P S zTt zc_2005 := by
  have hc : ∀ c ∈ zs_2005, zCtr mi_P S zTt c := fun c hc => by cases hc
  exact zCtr_of (Om := zTt) (ct := zc_2005) (ps := zp_2005) (fun _ _ _ _ => trivial) rfl hc za_2005 z0_2005 zk_2005
/-- LModel.firstOf(IZ)I -/
def zw_2006 : zW := .leaf (0, [])
def zp_2006 : List (zPo × List (Nat ⊕ (Nat × zL))) := [(([], [], [], some (.inr (.inr (.inr (.inl ((-1), 11)))))), [])]
def zc_2006 : zCt := (216, 1, [.inr (.inl 469), .inl (2, []), .inl (1, [])], [], [], .branch 488 (.branch 480 (.leaf (470, 112, 73, .inr 3, [((19, []), .inr (.inl 480)), ((27, []), .inr (.inl 488)), ((34, []), .inr (.inr (.inr (.inl (0, 1))))), ((40, []), .inr (.inl 495))])) (.leaf (481, 0, 2, .inl (0, 12), []))) (.branch 495 (.leaf (489, 2, 24, .inl (0, 1), [])) (.leaf (496, 0, 69, .inr 2, []))), zw_2006, [], zp_2006.map (fun p => p.1))
def zu_2006 : List zCu := [(([(216, 4, [(4, .inl (0, [(0, 1)])), (3, .inl (0, [(1, 1)])), (0, .inr (.inl 469)), (1, .inl (2, [])), (2, .inl (1, []))], [])], .branch 488 (.branch 480 (.leaf (470, 112, 73, .inr 3, [((19, []), .inr (.inl 480)), ((27, []), .inr (.inl 488)), ((34, []), .inr (.inr (.inr (.inl (0, 1))))), ((40, []), .inr (.inl 495))])) (.leaf (481, 0, 2, .inl (0, 12), []))) (.branch 495 (.leaf (489, 2, 24, .inl (0, 1), [])) (.leaf (496, 0, 69, .inr 2, []))), [(0, 12), ((-1), 11)], [], []), [.inl (0, 4), .inl (0, 3)], (12, [(0, (-1))]))]
def zs_2006 : List zCt := []
theorem za_2006 : zwin zw_2006 zc_2006.2.2.2.2.2.1 = true := by decide +kernel
theorem z0_2006 : zst0 mi_P zw_2006 [] [] (fun d y as t en => zcal zw_2006 d y as t en zs_2006) zc_2006 zp_2006 zu_2006 330 = true := by decide +kernel
theorem zk_2006 : zu_2006.all (zck mi_P zc_2006.2.1 zw_2006 false [] [] (fun d y as t en => zcal zw_2006 d y as t en zs_2006) zc_2006.2.2.2.1.length zc_2006.2.2.2.1 zc_2006.2.2.2.2.2.1 zp_2006 zu_2006 330) = true := by decide +kernel
theorem zt_2006 {S : Nat × (Nat → Int32)} : zCtr mi_P S zTt zc_2006 := by
  have hc : ∀ c ∈ zs_2006, zCtr mi_P S zTt c := fun c hc => by cases hc
  exact zCtr_of (Om := zTt) (ct := zc_2006) (ps := zp_2006) (fun _ _ _ _ => trivial) rfl hc za_2006 z0_2006 zk_2006
/-- LModel.hold(I)V -/
def zw_2007 : zW := .leaf (496, [0])
def zp_2007 : List (zPo × List (Nat ⊕ (Nat × zL))) := [(([], [], [(495, [])], none), [])]
def zc_2007 : zCt := (219, 0, [.inr (.inl 469), .inr (.inr (.inr (.inl (0, 11))))], [], [], .branch 495 (.leaf (470, 112, 73, .inr 3, [((40, []), .inr (.inl 495))])) (.leaf (496, 0, 69, .inr 2, [])), zw_2007, [], zp_2007.map (fun p => p.1))
def zu_2007 : List zCu := [(([(219, 2, [(2, .inl (0, [(1, 1)])), (0, .inr (.inl 469)), (1, .inl (0, [(0, 1)]))], [])], .branch 495 (.leaf (470, 112, 73, .inr 3, [((40, []), .inr (.inl 495))])) (.leaf (496, 0, 69, .inr 2, [])), [(0, 11), (0, 19)], [], []), [.inl (0, 1), .inl (0, 2)], (0, [(1, 1)]))]
def zs_2007 : List zCt := []
theorem za_2007 : zwin zw_2007 zc_2007.2.2.2.2.2.1 = true := by decide +kernel
theorem z0_2007 : zst0 mi_P zw_2007 [] [] (fun d y as t en => zcal zw_2007 d y as t en zs_2007) zc_2007 zp_2007 zu_2007 274 = true := by decide +kernel
theorem zk_2007 : zu_2007.all (zck mi_P zc_2007.2.1 zw_2007 false [] [] (fun d y as t en => zcal zw_2007 d y as t en zs_2007) zc_2007.2.2.2.1.length zc_2007.2.2.2.1 zc_2007.2.2.2.2.2.1 zp_2007 zu_2007 274) = true := by decide +kernel
theorem zt_2007 {S : Nat × (Nat → Int32)} : zCtr mi_P S zTt zc_2007 := by
  have hc : ∀ c ∈ zs_2007, zCtr mi_P S zTt c := fun c hc => by cases hc
  exact zCtr_of (Om := zTt) (ct := zc_2007) (ps := zp_2007) (fun _ _ _ _ => trivial) rfl hc za_2007 z0_2007 zk_2007
/-- LModel.doesPass(II)Z -/
def zw_2008 : zW := .branch 495 (.leaf (470, [49, 50])) (.leaf (496, [0]))
def zp_2008 : List (zPo × List (Nat ⊕ (Nat × zL))) := [(([], [], [(469, [((49, []), zaI), ((50, []), zaI)]), (495, [])], some (.inr (.inr (.inr (.inl (0, 1)))))), [])]
def zc_2008 : zCt := (217, 1, [.inr (.inl 469), .inr (.inr (.inr (.inl (0, 11)))), .inl (0, [])], [], [], .branch 495 (.leaf (470, 112, 73, .inr 3, [((40, []), .inr (.inl 495)), ((43, []), zaI), ((45, []), zaI), ((46, []), .inr (.inr (.inr (.inl (0, 1))))), ((49, []), zaI), ((50, []), zaI)])) (.leaf (496, 0, 69, .inr 2, [])), zw_2008, [], zp_2008.map (fun p => p.1))
def zu_2008 : List zCu := []
def zs_2008 : List zCt := [zc_2002, zc_2007]
theorem za_2008 : zwin zw_2008 zc_2008.2.2.2.2.2.1 = true := by decide +kernel
theorem z0_2008 : zst0 mi_P zw_2008 [] [] (fun d y as t en => zcal zw_2008 d y as t en zs_2008) zc_2008 zp_2008 zu_2008 354 = true := by decide +kernel
theorem zk_2008 : zu_2008.all (zck mi_P zc_2008.2.1 zw_2008 false [] [] (fun d y as t en => zcal zw_2008 d y as t en zs_2008) zc_2008.2.2.2.1.length zc_2008.2.2.2.1 zc_2008.2.2.2.2.2.1 zp_2008 zu_2008 354) = true := by decide +kernel
theorem zt_2008 {S : Nat × (Nat → Int32)} : zCtr mi_P S zTt zc_2008 := by
  have hc : ∀ c ∈ zs_2008, zCtr mi_P S zTt c := by
    intro c hc
    simp only [zs_2008, List.mem_cons, List.not_mem_nil, or_false] at hc
    rcases hc with rfl | rfl
    · exact zt_2002
    · exact zt_2007
  exact zCtr_of (Om := zTt) (ct := zc_2008) (ps := zp_2008) (fun _ _ _ _ => trivial) rfl hc za_2008 z0_2008 zk_2008
/-- LModel.doesPass(II)Z -/
def zw_2009 : zW := .branch 495 (.leaf (470, [49, 50])) (.leaf (496, [0]))
def zp_2009 : List (zPo × List (Nat ⊕ (Nat × zL))) := [(([], [], [(469, [((49, []), zaI), ((50, []), zaI)]), (495, [])], some (.inr (.inr (.inr (.inl (0, 1)))))), [])]
def zc_2009 : zCt := (217, 1, [.inr (.inl 469), .inr (.inr (.inr (.inl (0, 11)))), .inl (1, [])], [], [], .branch 495 (.leaf (470, 112, 73, .inr 3, [((40, []), .inr (.inl 495)), ((44, []), zaI), ((45, []), zaI), ((46, []), .inr (.inr (.inr (.inl (0, 1))))), ((49, []), zaI), ((50, []), zaI)])) (.leaf (496, 0, 69, .inr 2, [])), zw_2009, [], zp_2009.map (fun p => p.1))
def zu_2009 : List zCu := []
def zs_2009 : List zCt := [zc_2002, zc_2007]
theorem za_2009 : zwin zw_2009 zc_2009.2.2.2.2.2.1 = true := by decide +kernel
theorem z0_2009 : zst0 mi_P zw_2009 [] [] (fun d y as t en => zcal zw_2009 d y as t en zs_2009) zc_2009 zp_2009 zu_2009 348 = true := by decide +kernel
theorem zk_2009 : zu_2009.all (zck mi_P zc_2009.2.1 zw_2009 false [] [] (fun d y as t en => zcal zw_2009 d y as t en zs_2009) zc_2009.2.2.2.1.length zc_2009.2.2.2.1 zc_2009.2.2.2.2.2.1 zp_2009 zu_2009 348) = true := by decide +kernel
theorem zt_2009 {S : Nat × (Nat → Int32)} : zCtr mi_P S zTt zc_2009 := by
  have hc : ∀ c ∈ zs_2009, zCtr mi_P S zTt c := by
    intro c hc
    simp only [zs_2009, List.mem_cons, List.not_mem_nil, or_false] at hc
    rcases hc with rfl | rfl
    · exact zt_2002
    · exact zt_2007
  exact zCtr_of (Om := zTt) (ct := zc_2009) (ps := zp_2009) (fun _ _ _ _ => trivial) rfl hc za_2009 z0_2009 zk_2009
/-- LModel.leaves(Z)V -/
def zw_2010 : zW := .branch 495 (.leaf (470, [49, 50])) (.leaf (496, [0]))
def zp_2010 : List (zPo × List (Nat ⊕ (Nat × zL))) := [(([], [], [(469, [((49, []), zaI), ((50, []), zaI)]), (495, [])], none), [])]
def zc_2010 : zCt := (215, 2, [.inr (.inl 469), .inl (0, [])], [], [], .branch 488 (.branch 480 (.leaf (470, 112, 73, .inr 3, [((19, []), .inr (.inl 480)), ((27, []), .inr (.inl 488)), ((34, []), .inr (.inr (.inr (.inl (0, 1))))), ((40, []), .inr (.inl 495)), ((43, []), zaI), ((45, []), zaI), ((46, []), .inr (.inr (.inr (.inl (0, 1))))), ((49, []), zaI), ((50, []), zaI)])) (.leaf (481, 0, 2, .inl (0, 12), []))) (.branch 495 (.leaf (489, 2, 24, .inl (0, 1), [])) (.leaf (496, 0, 69, .inr 2, []))), zw_2010, [], zp_2010.map (fun p => p.1))
def zu_2010 : List zCu := []
def zs_2010 : List zCt := [zc_2005, zc_2008]
theorem za_2010 : zwin zw_2010 zc_2010.2.2.2.2.2.1 = true := by decide +kernel
theorem z0_2010 : zst0 mi_P zw_2010 [] [] (fun d y as t en => zcal zw_2010 d y as t en zs_2010) zc_2010 zp_2010 zu_2010 242 = true := by decide +kernel
theorem zk_2010 : zu_2010.all (zck mi_P zc_2010.2.1 zw_2010 false [] [] (fun d y as t en => zcal zw_2010 d y as t en zs_2010) zc_2010.2.2.2.1.length zc_2010.2.2.2.1 zc_2010.2.2.2.2.2.1 zp_2010 zu_2010 242) = true := by decide +kernel
theorem zt_2010 {S : Nat × (Nat → Int32)} : zCtr mi_P S zTt zc_2010 := by
  have hc : ∀ c ∈ zs_2010, zCtr mi_P S zTt c := by
    intro c hc
    simp only [zs_2010, List.mem_cons, List.not_mem_nil, or_false] at hc
    rcases hc with rfl | rfl
    · exact zt_2005
    · exact zt_2008
  exact zCtr_of (Om := zTt) (ct := zc_2010) (ps := zp_2010) (fun _ _ _ _ => trivial) rfl hc za_2010 z0_2010 zk_2010
/-- LModel.enters(Z)V -/
def zw_2011 : zW := .branch 495 (.leaf (470, [49, 50])) (.leaf (496, [0]))
def zp_2011 : List (zPo × List (Nat ⊕ (Nat × zL))) := [(([], [], [(469, [((49, []), zaI), ((50, []), zaI)]), (495, [])], none), [])]
def zc_2011 : zCt := (220, 2, [.inr (.inl 469), .inl (0, [])], [], [], .branch 488 (.branch 480 (.leaf (470, 112, 73, .inr 3, [((19, []), .inr (.inl 480)), ((23, []), .inr (.inl 484)), ((27, []), .inr (.inl 488)), ((34, []), .inr (.inr (.inr (.inl (0, 1))))), ((40, []), .inr (.inl 495)), ((41, []), .inr (.inl 496)), ((42, []), zaI), ((44, []), zaI), ((45, []), zaI), ((46, []), .inr (.inr (.inr (.inl (0, 1))))), ((49, []), zaI), ((50, []), zaI)])) (.branch 484 (.leaf (481, 0, 2, .inl (0, 12), [])) (.leaf (485, 0, 24, .inl ((-2147483648), 2147483647), [])))) (.branch 495 (.leaf (489, 2, 24, .inl (0, 1), [])) (.branch 496 (.leaf (496, 0, 69, .inr 2, [])) (.leaf (497, 0, 12, .inl ((-2147483648), 2147483647), [])))), zw_2011, [], zp_2011.map (fun p => p.1))
def zu_2011 : List zCu := []
def zs_2011 : List zCt := [zc_2003, zc_2001, zc_2009]
theorem za_2011 : zwin zw_2011 zc_2011.2.2.2.2.2.1 = true := by decide +kernel
theorem z0_2011 : zst0 mi_P zw_2011 [] [] (fun d y as t en => zcal zw_2011 d y as t en zs_2011) zc_2011 zp_2011 zu_2011 300 = true := by decide +kernel
theorem zk_2011 : zu_2011.all (zck mi_P zc_2011.2.1 zw_2011 false [] [] (fun d y as t en => zcal zw_2011 d y as t en zs_2011) zc_2011.2.2.2.1.length zc_2011.2.2.2.1 zc_2011.2.2.2.2.2.1 zp_2011 zu_2011 300) = true := by decide +kernel
theorem zt_2011 {S : Nat × (Nat → Int32)} : zCtr mi_P S zTt zc_2011 := by
  have hc : ∀ c ∈ zs_2011, zCtr mi_P S zTt c := by
    intro c hc
    simp only [zs_2011, List.mem_cons, List.not_mem_nil, or_false] at hc
    rcases hc with rfl | rfl | rfl
    · exact zt_2003
    · exact zt_2001
    · exact zt_2009
  exact zCtr_of (Om := zTt) (ct := zc_2011) (ps := zp_2011) (fun _ _ _ _ => trivial) rfl hc za_2011 z0_2011 zk_2011
/-- LModel.leaves(Z)V -/
def zw_2012 : zW := .branch 495 (.leaf (470, [49, 50])) (.leaf (496, [0]))
def zp_2012 : List (zPo × List (Nat ⊕ (Nat × zL))) := [(([], [], [(469, [((49, []), zaI), ((50, []), zaI)]), (495, [])], none), [])]
def zc_2012 : zCt := (215, 2, [.inr (.inl 469), .inl (1, [])], [], [], .branch 488 (.branch 480 (.leaf (470, 112, 73, .inr 3, [((19, []), .inr (.inl 480)), ((27, []), .inr (.inl 488)), ((34, []), .inr (.inr (.inr (.inl (0, 1))))), ((40, []), .inr (.inl 495)), ((44, []), zaI), ((45, []), zaI), ((46, []), .inr (.inr (.inr (.inl (0, 1))))), ((49, []), zaI), ((50, []), zaI)])) (.leaf (481, 0, 2, .inl (0, 12), []))) (.branch 495 (.leaf (489, 2, 24, .inl (0, 1), [])) (.leaf (496, 0, 69, .inr 2, []))), zw_2012, [], zp_2012.map (fun p => p.1))
def zu_2012 : List zCu := []
def zs_2012 : List zCt := [zc_2006, zc_2009]
theorem za_2012 : zwin zw_2012 zc_2012.2.2.2.2.2.1 = true := by decide +kernel
theorem z0_2012 : zst0 mi_P zw_2012 [] [] (fun d y as t en => zcal zw_2012 d y as t en zs_2012) zc_2012 zp_2012 zu_2012 244 = true := by decide +kernel
theorem zk_2012 : zu_2012.all (zck mi_P zc_2012.2.1 zw_2012 false [] [] (fun d y as t en => zcal zw_2012 d y as t en zs_2012) zc_2012.2.2.2.1.length zc_2012.2.2.2.1 zc_2012.2.2.2.2.2.1 zp_2012 zu_2012 244) = true := by decide +kernel
theorem zt_2012 {S : Nat × (Nat → Int32)} : zCtr mi_P S zTt zc_2012 := by
  have hc : ∀ c ∈ zs_2012, zCtr mi_P S zTt c := by
    intro c hc
    simp only [zs_2012, List.mem_cons, List.not_mem_nil, or_false] at hc
    rcases hc with rfl | rfl
    · exact zt_2006
    · exact zt_2009
  exact zCtr_of (Om := zTt) (ct := zc_2012) (ps := zp_2012) (fun _ _ _ _ => trivial) rfl hc za_2012 z0_2012 zk_2012
/-- LModel.enters(Z)V -/
def zw_2013 : zW := .branch 495 (.leaf (470, [49, 50])) (.leaf (496, [0]))
def zp_2013 : List (zPo × List (Nat ⊕ (Nat × zL))) := [(([], [], [(469, [((49, []), zaI), ((50, []), zaI)]), (495, [])], none), [])]
def zc_2013 : zCt := (220, 2, [.inr (.inl 469), .inl (1, [])], [], [], .branch 488 (.branch 480 (.leaf (470, 112, 73, .inr 3, [((19, []), .inr (.inl 480)), ((23, []), .inr (.inl 484)), ((27, []), .inr (.inl 488)), ((34, []), .inr (.inr (.inr (.inl (0, 1))))), ((40, []), .inr (.inl 495)), ((41, []), .inr (.inl 496)), ((42, []), zaI), ((43, []), zaI), ((45, []), zaI), ((46, []), .inr (.inr (.inr (.inl (0, 1))))), ((49, []), zaI), ((50, []), zaI)])) (.branch 484 (.leaf (481, 0, 2, .inl (0, 12), [])) (.leaf (485, 0, 24, .inl ((-2147483648), 2147483647), [])))) (.branch 495 (.leaf (489, 2, 24, .inl (0, 1), [])) (.branch 496 (.leaf (496, 0, 69, .inr 2, [])) (.leaf (497, 0, 12, .inl ((-2147483648), 2147483647), [])))), zw_2013, [], zp_2013.map (fun p => p.1))
def zu_2013 : List zCu := []
def zs_2013 : List zCt := [zc_2004, zc_2001, zc_2008]
theorem za_2013 : zwin zw_2013 zc_2013.2.2.2.2.2.1 = true := by decide +kernel
theorem z0_2013 : zst0 mi_P zw_2013 [] [] (fun d y as t en => zcal zw_2013 d y as t en zs_2013) zc_2013 zp_2013 zu_2013 302 = true := by decide +kernel
theorem zk_2013 : zu_2013.all (zck mi_P zc_2013.2.1 zw_2013 false [] [] (fun d y as t en => zcal zw_2013 d y as t en zs_2013) zc_2013.2.2.2.1.length zc_2013.2.2.2.1 zc_2013.2.2.2.2.2.1 zp_2013 zu_2013 302) = true := by decide +kernel
theorem zt_2013 {S : Nat × (Nat → Int32)} : zCtr mi_P S zTt zc_2013 := by
  have hc : ∀ c ∈ zs_2013, zCtr mi_P S zTt c := by
    intro c hc
    simp only [zs_2013, List.mem_cons, List.not_mem_nil, or_false] at hc
    rcases hc with rfl | rfl | rfl
    · exact zt_2004
    · exact zt_2001
    · exact zt_2008
  exact zCtr_of (Om := zTt) (ct := zc_2013) (ps := zp_2013) (fun _ _ _ _ => trivial) rfl hc za_2013 z0_2013 zk_2013
/-- LModel.parted(II)I -/
def zw_2014 : zW := .leaf (496, [0])
def zp_2014 : List (zPo × List (Nat ⊕ (Nat × zL))) := [(([], [], [(495, [])], some (zaI)), [])]
def zc_2014 : zCt := (224, 1, [.inr (.inl 469), zaI, zaI], [], [], .branch 495 (.leaf (470, 112, 73, .inr 3, [((40, []), .inr (.inl 495))])) (.leaf (496, 0, 69, .inr 2, [])), zw_2014, [], zp_2014.map (fun p => p.1))
def zu_2014 : List zCu := []
def zs_2014 : List zCt := [zc_2002]
theorem za_2014 : zwin zw_2014 zc_2014.2.2.2.2.2.1 = true := by decide +kernel
theorem z0_2014 : zst0 mi_P zw_2014 [] [] (fun d y as t en => zcal zw_2014 d y as t en zs_2014) zc_2014 zp_2014 zu_2014 230 = true := by decide +kernel
theorem zk_2014 : zu_2014.all (zck mi_P zc_2014.2.1 zw_2014 false [] [] (fun d y as t en => zcal zw_2014 d y as t en zs_2014) zc_2014.2.2.2.1.length zc_2014.2.2.2.1 zc_2014.2.2.2.2.2.1 zp_2014 zu_2014 230) = true := by decide +kernel
theorem zt_2014 {S : Nat × (Nat → Int32)} : zCtr mi_P S zTt zc_2014 := by
  have hc : ∀ c ∈ zs_2014, zCtr mi_P S zTt c := by
    intro c hc
    simp only [zs_2014, List.mem_cons, List.not_mem_nil, or_false] at hc
    rcases hc with rfl
    · exact zt_2002
  exact zCtr_of (Om := zTt) (ct := zc_2014) (ps := zp_2014) (fun _ _ _ _ => trivial) rfl hc za_2014 z0_2014 zk_2014
/-- LModel.line(I)I -/
def zw_2016 : zW := .leaf (0, [])
def zp_2016 : List (zPo × List (Nat ⊕ (Nat × zL))) := [(([], [], [], some (zaI)), [])]
def zc_2016 : zCt := (211, 1, [.inr (.inl 469), .inl (0, [])], [], [], .branch 488 (.branch 480 (.leaf (470, 112, 73, .inr 3, [((19, []), .inr (.inl 480)), ((27, []), .inr (.inl 488)), ((34, []), .inr (.inr (.inr (.inl (0, 1))))), ((40, []), .inr (.inl 495))])) (.leaf (481, 0, 2, .inl (0, 12), []))) (.branch 495 (.leaf (489, 2, 24, .inl (0, 1), [])) (.leaf (496, 0, 69, .inr 2, []))), zw_2016, [], zp_2016.map (fun p => p.1))
def zu_2016 : List zCu := [(([(211, 11, [(3, .inl (0, [(0, 1)])), (2, .inl (0, [(1, 1)])), (0, .inr (.inl 469)), (1, .inl (0, []))], [])], .branch 488 (.branch 480 (.leaf (470, 112, 73, .inr 3, [((19, []), .inr (.inl 480)), ((27, []), .inr (.inl 488)), ((34, []), .inr (.inr (.inr (.inl (0, 1))))), ((40, []), .inr (.inl 495))])) (.leaf (481, 0, 2, .inl (0, 12), []))) (.branch 495 (.leaf (489, 2, 24, .inl (0, 1), [])) (.leaf (496, 0, 69, .inr 2, []))), [(0, 12), ((-2147483648), 2147483647)], [], []), [.inl (0, 3), .inl (0, 2)], (12, [(0, (-1))]))]
def zs_2016 : List zCt := []
theorem za_2016 : zwin zw_2016 zc_2016.2.2.2.2.2.1 = true := by decide +kernel
theorem z0_2016 : zst0 mi_P zw_2016 [] [] (fun d y as t en => zcal zw_2016 d y as t en zs_2016) zc_2016 zp_2016 zu_2016 338 = true := by decide +kernel
theorem zk_2016 : zu_2016.all (zck mi_P zc_2016.2.1 zw_2016 false [] [] (fun d y as t en => zcal zw_2016 d y as t en zs_2016) zc_2016.2.2.2.1.length zc_2016.2.2.2.1 zc_2016.2.2.2.2.2.1 zp_2016 zu_2016 338) = true := by decide +kernel
theorem zt_2016 {S : Nat × (Nat → Int32)} : zCtr mi_P S zTt zc_2016 := by
  have hc : ∀ c ∈ zs_2016, zCtr mi_P S zTt c := fun c hc => by cases hc
  exact zCtr_of (Om := zTt) (ct := zc_2016) (ps := zp_2016) (fun _ _ _ _ => trivial) rfl hc za_2016 z0_2016 zk_2016
/-- LModel.line(I)I -/
def zw_2017 : zW := .leaf (0, [])
def zp_2017 : List (zPo × List (Nat ⊕ (Nat × zL))) := [(([], [], [], some (zaI)), [])]
def zc_2017 : zCt := (211, 1, [.inr (.inl 469), .inl (1, [])], [], [], .branch 488 (.branch 480 (.leaf (470, 112, 73, .inr 3, [((19, []), .inr (.inl 480)), ((27, []), .inr (.inl 488)), ((34, []), .inr (.inr (.inr (.inl (0, 1))))), ((40, []), .inr (.inl 495))])) (.leaf (481, 0, 2, .inl (0, 12), []))) (.branch 495 (.leaf (489, 2, 24, .inl (0, 1), [])) (.leaf (496, 0, 69, .inr 2, []))), zw_2017, [], zp_2017.map (fun p => p.1))
def zu_2017 : List zCu := [(([(211, 11, [(3, .inl (0, [(0, 1)])), (2, .inl (0, [(1, 1)])), (0, .inr (.inl 469)), (1, .inl (1, []))], [])], .branch 488 (.branch 480 (.leaf (470, 112, 73, .inr 3, [((19, []), .inr (.inl 480)), ((27, []), .inr (.inl 488)), ((34, []), .inr (.inr (.inr (.inl (0, 1))))), ((40, []), .inr (.inl 495))])) (.leaf (481, 0, 2, .inl (0, 12), []))) (.branch 495 (.leaf (489, 2, 24, .inl (0, 1), [])) (.leaf (496, 0, 69, .inr 2, []))), [(0, 12), ((-2147483648), 2147483647)], [], []), [.inl (0, 3), .inl (0, 2)], (12, [(0, (-1))]))]
def zs_2017 : List zCt := []
theorem za_2017 : zwin zw_2017 zc_2017.2.2.2.2.2.1 = true := by decide +kernel
theorem z0_2017 : zst0 mi_P zw_2017 [] [] (fun d y as t en => zcal zw_2017 d y as t en zs_2017) zc_2017 zp_2017 zu_2017 336 = true := by decide +kernel
theorem zk_2017 : zu_2017.all (zck mi_P zc_2017.2.1 zw_2017 false [] [] (fun d y as t en => zcal zw_2017 d y as t en zs_2017) zc_2017.2.2.2.1.length zc_2017.2.2.2.1 zc_2017.2.2.2.2.2.1 zp_2017 zu_2017 336) = true := by decide +kernel
theorem zt_2017 {S : Nat × (Nat → Int32)} : zCtr mi_P S zTt zc_2017 := by
  have hc : ∀ c ∈ zs_2017, zCtr mi_P S zTt c := fun c hc => by cases hc
  exact zCtr_of (Om := zTt) (ct := zc_2017) (ps := zp_2017) (fun _ _ _ _ => trivial) rfl hc za_2017 z0_2017 zk_2017
/-- LModel.line(I)I -/
def zw_2018 : zW := .leaf (0, [])
def zp_2018 : List (zPo × List (Nat ⊕ (Nat × zL))) := [(([], [], [], some (zaI)), [])]
def zc_2018 : zCt := (211, 1, [.inr (.inl 469), .inl (2, [])], [], [], .branch 480 (.leaf (470, 112, 73, .inr 3, [((19, []), .inr (.inl 480)), ((34, []), .inr (.inr (.inr (.inl (0, 1))))), ((40, []), .inr (.inl 495))])) (.branch 495 (.leaf (481, 0, 2, .inl (0, 12), [])) (.leaf (496, 0, 69, .inr 2, []))), zw_2018, [], zp_2018.map (fun p => p.1))
def zu_2018 : List zCu := [(([(211, 11, [(3, .inl (0, [(0, 1)])), (2, .inl (0, [(1, 1)])), (0, .inr (.inl 469)), (1, .inl (2, []))], [])], .branch 480 (.leaf (470, 112, 73, .inr 3, [((19, []), .inr (.inl 480)), ((34, []), .inr (.inr (.inr (.inl (0, 1))))), ((40, []), .inr (.inl 495))])) (.branch 495 (.leaf (481, 0, 2, .inl (0, 12), [])) (.leaf (496, 0, 69, .inr 2, []))), [(0, 12), ((-2147483648), 2147483647)], [], []), [.inl (0, 3), .inl (0, 2)], (12, [(0, (-1))]))]
def zs_2018 : List zCt := []
theorem za_2018 : zwin zw_2018 zc_2018.2.2.2.2.2.1 = true := by decide +kernel
theorem z0_2018 : zst0 mi_P zw_2018 [] [] (fun d y as t en => zcal zw_2018 d y as t en zs_2018) zc_2018 zp_2018 zu_2018 284 = true := by decide +kernel
theorem zk_2018 : zu_2018.all (zck mi_P zc_2018.2.1 zw_2018 false [] [] (fun d y as t en => zcal zw_2018 d y as t en zs_2018) zc_2018.2.2.2.1.length zc_2018.2.2.2.1 zc_2018.2.2.2.2.2.1 zp_2018 zu_2018 284) = true := by decide +kernel
theorem zt_2018 {S : Nat × (Nat → Int32)} : zCtr mi_P S zTt zc_2018 := by
  have hc : ∀ c ∈ zs_2018, zCtr mi_P S zTt c := fun c hc => by cases hc
  exact zCtr_of (Om := zTt) (ct := zc_2018) (ps := zp_2018) (fun _ _ _ _ => trivial) rfl hc za_2018 z0_2018 zk_2018
/-- LModel.notePeaks()V -/
def zw_2019 : zW := .branch 497 (.leaf (470, [51])) (.branch 498 (.leaf (498, [0])) (.leaf (499, [0])))
def zp_2019 : List (zPo × List (Nat ⊕ (Nat × zL))) := [(([], [], [(469, [((51, []), zaI)]), (497, []), (498, [])], none), [])]
def zc_2019 : zCt := (222, 2, [.inr (.inl 469)], [], [], .branch 488 (.branch 480 (.leaf (470, 112, 73, .inr 3, [((19, []), .inr (.inl 480)), ((22, []), .inr (.inl 483)), ((27, []), .inr (.inl 488)), ((34, []), .inr (.inr (.inr (.inl (0, 1))))), ((40, []), .inr (.inl 495)), ((47, []), .inr (.inl 497)), ((48, []), .inr (.inl 498)), ((51, []), zaI)])) (.branch 483 (.leaf (481, 0, 2, .inl (0, 12), [])) (.leaf (484, 0, 24, .inl ((-2147483648), 2147483647), [])))) (.branch 497 (.branch 495 (.leaf (489, 2, 24, .inl (0, 1), [])) (.leaf (496, 0, 69, .inr 2, []))) (.branch 498 (.leaf (498, 0, 3, .inl ((-2147483648), 2147483647), [])) (.leaf (499, 0, 2, .inl ((-2147483648), 2147483647), [])))), zw_2019, [], zp_2019.map (fun p => p.1))
def zu_2019 : List zCu := [(([(222, 2, [(1, .inl (0, [(0, 1)])), (0, .inr (.inl 469))], [])], .branch 488 (.branch 480 (.leaf (470, 112, 73, .inr 3, [((19, []), .inr (.inl 480)), ((22, []), .inr (.inl 483)), ((27, []), .inr (.inl 488)), ((34, []), .inr (.inr (.inr (.inl (0, 1))))), ((40, []), .inr (.inl 495)), ((47, []), .inr (.inl 497)), ((48, []), .inr (.inl 498)), ((51, []), zaI)])) (.branch 483 (.leaf (481, 0, 2, .inl (0, 12), [])) (.leaf (484, 0, 24, .inl ((-2147483648), 2147483647), [])))) (.branch 497 (.branch 495 (.leaf (489, 2, 24, .inl (0, 1), [])) (.leaf (496, 0, 69, .inr 2, []))) (.branch 498 (.leaf (498, 0, 3, .inl ((-2147483648), 2147483647), [])) (.leaf (499, 0, 2, .inl ((-2147483648), 2147483647), [])))), [(0, 3)], [], []), [.inl (0, 1)], (195, [(0, (-26))])), (([(211, 11, [(3, .inl (0, [(1, 1)])), (2, .inl (0, [(2, 1)])), (0, .inr (.inl 469)), (1, .inl (0, [(0, 1)]))], []), (222, 11, [(1, .inl (0, [(0, 1)])), (0, .inr (.inl 469))], [])], .branch 488 (.branch 480 (.leaf (470, 112, 73, .inr 3, [((19, []), .inr (.inl 480)), ((22, []), .inr (.inl 483)), ((27, []), .inr (.inl 488)), ((34, []), .inr (.inr (.inr (.inl (0, 1))))), ((40, []), .inr (.inl 495)), ((47, []), .inr (.inl 497)), ((48, []), .inr (.inl 498)), ((51, []), zaI)])) (.branch 483 (.leaf (481, 0, 2, .inl (0, 12), [])) (.leaf (484, 0, 24, .inl ((-2147483648), 2147483647), [])))) (.branch 497 (.branch 495 (.leaf (489, 2, 24, .inl (0, 1), [])) (.leaf (496, 0, 69, .inr 2, []))) (.branch 498 (.leaf (498, 0, 3, .inl ((-2147483648), 2147483647), [])) (.leaf (499, 0, 2, .inl ((-2147483648), 2147483647), [])))), [(0, 1), (0, 12), ((-2147483648), 2147483647)], [], []), [.inl (0, 1), .inl (0, 3), .inl (0, 2)], (194, [(0, (-26)), (1, (-1))])), (([(222, 30, [(1, .inl (0, [(0, 1)])), (0, .inr (.inl 469))], [])], .branch 488 (.branch 480 (.leaf (470, 112, 73, .inr 3, [((19, []), .inr (.inl 480)), ((22, []), .inr (.inl 483)), ((27, []), .inr (.inl 488)), ((34, []), .inr (.inr (.inr (.inl (0, 1))))), ((40, []), .inr (.inl 495)), ((47, []), .inr (.inl 497)), ((48, []), .inr (.inl 498)), ((51, []), zaI)])) (.branch 483 (.leaf (481, 0, 2, .inl (0, 12), [])) (.leaf (484, 0, 24, .inl ((-2147483648), 2147483647), [])))) (.branch 497 (.branch 495 (.leaf (489, 2, 24, .inl (0, 1), [])) (.leaf (496, 0, 69, .inr 2, []))) (.branch 498 (.leaf (498, 0, 3, .inl ((-2147483648), 2147483647), [])) (.leaf (499, 0, 2, .inl ((-2147483648), 2147483647), [])))), [(0, 2)], [], []), [.inl (0, 1)], (52, [(0, (-26))]))]
def zs_2019 : List zCt := [zc_2000, zc_2006, zc_2005]
theorem za_2019 : zwin zw_2019 zc_2019.2.2.2.2.2.1 = true := by decide +kernel
theorem z0_2019 : zst0 mi_P zw_2019 [] [] (fun d y as t en => zcal zw_2019 d y as t en zs_2019) zc_2019 zp_2019 zu_2019 422 = true := by decide +kernel
theorem zk_2019 : zu_2019.all (zck mi_P zc_2019.2.1 zw_2019 false [] [] (fun d y as t en => zcal zw_2019 d y as t en zs_2019) zc_2019.2.2.2.1.length zc_2019.2.2.2.1 zc_2019.2.2.2.2.2.1 zp_2019 zu_2019 422) = true := by decide +kernel
theorem zt_2019 {S : Nat × (Nat → Int32)} : zCtr mi_P S zTt zc_2019 := by
  have hc : ∀ c ∈ zs_2019, zCtr mi_P S zTt c := by
    intro c hc
    simp only [zs_2019, List.mem_cons, List.not_mem_nil, or_false] at hc
    rcases hc with rfl | rfl | rfl
    · exact zt_2000
    · exact zt_2006
    · exact zt_2005
  exact zCtr_of (Om := zTt) (ct := zc_2019) (ps := zp_2019) (fun _ _ _ _ => trivial) rfl hc za_2019 z0_2019 zk_2019
/-- LModel.keepAct()V -/
def zw_2021 : zW := .branch 499 (.leaf (470, [53, 54])) (.leaf (500, [0]))
def zp_2021 : List (zPo × List (Nat ⊕ (Nat × zL))) := [(([(0, 40)], [], [(469, [((53, []), .inl (0, [(0, 1)])), ((54, []), .inl (0, []))]), (499, [])], none), [.inr (469, (53, []))])]
def zc_2021 : zCt := (213, 0, [.inr (.inl 469)], [], [], .branch 495 (.leaf (470, 112, 73, .inr 3, [((40, []), .inr (.inl 495)), ((52, []), .inr (.inl 499)), ((53, []), .inr (.inr (.inr (.inl (0, 40))))), ((54, []), .inr (.inr (.inr (.inl (0, 40)))))])) (.branch 499 (.leaf (496, 0, 69, .inr 2, [])) (.leaf (500, 0, 2829, .inr 2, []))), zw_2021, [], zp_2021.map (fun p => p.1))
def zu_2021 : List zCu := [(([(213, 6, [(1, .inl (0, [(1, 1)])), (0, .inr (.inl 469))], [])], .branch 495 (.leaf (470, 112, 73, .inr 3, [((40, []), .inr (.inl 495)), ((52, []), .inr (.inl 499)), ((54, []), .inr (.inr (.inr (.inl (0, 40))))), ((53, []), .inl (0, [(0, 1)]))])) (.branch 499 (.leaf (496, 0, 69, .inr 2, [])) (.leaf (500, 0, 2829, .inr 2, []))), [(40, 40), (0, 3072)], [], []), [.inr (.inr (469, (53, []))), .inl (0, 1)], (6145, [(1, (-1))])), (([(213, 29, [(1, .inl (0, [(1, 1)])), (0, .inr (.inl 469))], [])], .branch 495 (.leaf (470, 112, 73, .inr 3, [((40, []), .inr (.inl 495)), ((52, []), .inr (.inl 499)), ((54, []), .inr (.inr (.inr (.inl (0, 40))))), ((53, []), .inl (0, [(0, 1)]))])) (.branch 499 (.leaf (496, 0, 69, .inr 2, [])) (.leaf (500, 0, 2829, .inr 2, []))), [(0, 39), (0, 69)], [], []), [.inr (.inr (469, (53, []))), .inl (0, 1)], (69, [(1, (-1))]))]
def zs_2021 : List zCt := []
theorem za_2021 : zwin zw_2021 zc_2021.2.2.2.2.2.1 = true := by decide +kernel
theorem z0_2021 : zst0 mi_P zw_2021 [] [] (fun d y as t en => zcal zw_2021 d y as t en zs_2021) zc_2021 zp_2021 zu_2021 254 = true := by decide +kernel
theorem zk_2021 : zu_2021.all (zck mi_P zc_2021.2.1 zw_2021 false [] [] (fun d y as t en => zcal zw_2021 d y as t en zs_2021) zc_2021.2.2.2.1.length zc_2021.2.2.2.1 zc_2021.2.2.2.2.2.1 zp_2021 zu_2021 254) = true := by decide +kernel
theorem zt_2021 {S : Nat × (Nat → Int32)} : zCtr mi_P S zTt zc_2021 := by
  have hc : ∀ c ∈ zs_2021, zCtr mi_P S zTt c := fun c hc => by cases hc
  exact zCtr_of (Om := zTt) (ct := zc_2021) (ps := zp_2021) (fun _ _ _ _ => trivial) rfl hc za_2021 z0_2021 zk_2021
/-- LModel.goWeek()V -/
def zw_2022 : zW := .leaf (496, [0])
def zp_2022 : List (zPo × List (Nat ⊕ (Nat × zL))) := [(([], [], [(495, [])], none), [])]
def zc_2022 : zCt := (230, 0, [.inr (.inl 469)], [], [], .branch 495 (.leaf (470, 112, 73, .inr 3, [((40, []), .inr (.inl 495))])) (.leaf (496, 0, 69, .inr 2, [])), zw_2022, [], zp_2022.map (fun p => p.1))
def zu_2022 : List zCu := [(([(230, 25, [(1, .inl (0, [(0, 1)])), (0, .inr (.inl 469))], [])], .branch 495 (.leaf (470, 112, 73, .inr 3, [((40, []), .inr (.inl 495))])) (.leaf (496, 0, 69, .inr 2, [((44, []), .inl (0, [])), ((40, []), .inl (0, [])), ((41, []), .inl (0, []))])), [(0, 12)], [], []), [.inl (0, 1)], (12, [(0, (-1))]))]
def zs_2022 : List zCt := []
theorem za_2022 : zwin zw_2022 zc_2022.2.2.2.2.2.1 = true := by decide +kernel
theorem z0_2022 : zst0 mi_P zw_2022 [] [] (fun d y as t en => zcal zw_2022 d y as t en zs_2022) zc_2022 zp_2022 zu_2022 250 = true := by decide +kernel
theorem zk_2022 : zu_2022.all (zck mi_P zc_2022.2.1 zw_2022 false [] [] (fun d y as t en => zcal zw_2022 d y as t en zs_2022) zc_2022.2.2.2.1.length zc_2022.2.2.2.1 zc_2022.2.2.2.2.2.1 zp_2022 zu_2022 250) = true := by decide +kernel
theorem zt_2022 {S : Nat × (Nat → Int32)} : zCtr mi_P S zTt zc_2022 := by
  have hc : ∀ c ∈ zs_2022, zCtr mi_P S zTt c := fun c hc => by cases hc
  exact zCtr_of (Om := zTt) (ct := zc_2022) (ps := zp_2022) (fun _ _ _ _ => trivial) rfl hc za_2022 z0_2022 zk_2022
/-- LModel.keepNow()V -/
def zw_2023 : zW := .leaf (501, [0])
def zp_2023 : List (zPo × List (Nat ⊕ (Nat × zL))) := [(([], [], [(500, [])], none), [])]
def zc_2023 : zCt := (235, 0, [.inr (.inl 469)], [], [], .branch 495 (.leaf (470, 112, 73, .inr 3, [((40, []), .inr (.inl 495)), ((55, []), .inr (.inl 500))])) (.branch 500 (.leaf (496, 0, 69, .inr 2, [])) (.leaf (501, 0, 69, .inr 2, []))), zw_2023, [], zp_2023.map (fun p => p.1))
def zu_2023 : List zCu := [(([(235, 2, [(1, .inl (0, [(0, 1)])), (0, .inr (.inl 469))], [])], .branch 495 (.leaf (470, 112, 73, .inr 3, [((40, []), .inr (.inl 495)), ((55, []), .inr (.inl 500))])) (.branch 500 (.leaf (496, 0, 69, .inr 2, [])) (.leaf (501, 0, 69, .inr 2, []))), [(0, 69)], [], []), [.inl (0, 1)], (69, [(0, (-1))]))]
def zs_2023 : List zCt := []
theorem za_2023 : zwin zw_2023 zc_2023.2.2.2.2.2.1 = true := by decide +kernel
theorem z0_2023 : zst0 mi_P zw_2023 [] [] (fun d y as t en => zcal zw_2023 d y as t en zs_2023) zc_2023 zp_2023 zu_2023 226 = true := by decide +kernel
theorem zk_2023 : zu_2023.all (zck mi_P zc_2023.2.1 zw_2023 false [] [] (fun d y as t en => zcal zw_2023 d y as t en zs_2023) zc_2023.2.2.2.1.length zc_2023.2.2.2.1 zc_2023.2.2.2.2.2.1 zp_2023 zu_2023 226) = true := by decide +kernel
theorem zt_2023 {S : Nat × (Nat → Int32)} : zCtr mi_P S zTt zc_2023 := by
  have hc : ∀ c ∈ zs_2023, zCtr mi_P S zTt c := fun c hc => by cases hc
  exact zCtr_of (Om := zTt) (ct := zc_2023) (ps := zp_2023) (fun _ _ _ _ => trivial) rfl hc za_2023 z0_2023 zk_2023
/-- LModel.bringBack()V -/
def zw_2024 : zW := .branch 495 (.leaf (470, [42, 43, 44, 45, 46])) (.branch 496 (.leaf (496, [0])) (.leaf (497, [0])))
def zp_2024 : List (zPo × List (Nat ⊕ (Nat × zL))) := [(([], [], [(469, [((42, []), zaI), ((43, []), zaI), ((44, []), zaI), ((45, []), zaI), ((46, []), .inr (.inr (.inr (.inl (0, 1)))))]), (495, []), (496, [])], none), [])]
def zc_2024 : zCt := (243, 2, [.inr (.inl 469)], [], [], .branch 476 (.branch 473 (.branch 472 (.leaf (470, 112, 73, .inr 3, [((11, []), .inr (.inl 472)), ((12, []), .inr (.inl 473)), ((13, []), .inr (.inl 474)), ((14, []), .inr (.inl 475)), ((15, []), .inr (.inl 476)), ((24, []), .inr (.inl 485)), ((34, []), .inr (.inr (.inr (.inl (0, 1))))), ((40, []), .inr (.inl 495)), ((41, []), .inr (.inl 496)), ((42, []), zaI), ((43, []), zaI), ((44, []), zaI), ((45, []), zaI), ((46, []), .inr (.inr (.inr (.inl (0, 1))))), ((55, []), .inr (.inl 500))])) (.leaf (473, 0, 2, .inl ((-2147483648), 2147483647), []))) (.branch 474 (.leaf (474, 0, 2, .inl ((-2147483648), 2147483647), [])) (.branch 475 (.leaf (475, 0, 2, .inl ((-2147483648), 2147483647), [])) (.leaf (476, 0, 2, .inl ((-2147483648), 2147483647), []))))) (.branch 495 (.branch 485 (.leaf (477, 0, 2, .inl ((-2147483648), 2147483647), [])) (.leaf (486, 0, 24, .inl ((-2147483648), 2147483647), []))) (.branch 496 (.leaf (496, 0, 69, .inr 2, [])) (.branch 500 (.leaf (497, 0, 12, .inl ((-2147483648), 2147483647), [])) (.leaf (501, 0, 69, .inr 2, []))))), zw_2024, [], zp_2024.map (fun p => p.1))
def zu_2024 : List zCu := [(([(243, 2, [(1, .inl (0, [(0, 1)])), (0, .inr (.inl 469))], [])], .branch 476 (.branch 473 (.branch 472 (.leaf (470, 112, 73, .inr 3, [((11, []), .inr (.inl 472)), ((12, []), .inr (.inl 473)), ((13, []), .inr (.inl 474)), ((14, []), .inr (.inl 475)), ((15, []), .inr (.inl 476)), ((24, []), .inr (.inl 485)), ((34, []), .inr (.inr (.inr (.inl (0, 1))))), ((40, []), .inr (.inl 495)), ((41, []), .inr (.inl 496)), ((42, []), zaI), ((43, []), zaI), ((44, []), zaI), ((45, []), zaI), ((46, []), .inr (.inr (.inr (.inl (0, 1))))), ((55, []), .inr (.inl 500))])) (.leaf (473, 0, 2, .inl ((-2147483648), 2147483647), []))) (.branch 474 (.leaf (474, 0, 2, .inl ((-2147483648), 2147483647), [])) (.branch 475 (.leaf (475, 0, 2, .inl ((-2147483648), 2147483647), [])) (.leaf (476, 0, 2, .inl ((-2147483648), 2147483647), []))))) (.branch 495 (.branch 485 (.leaf (477, 0, 2, .inl ((-2147483648), 2147483647), [])) (.leaf (486, 0, 24, .inl ((-2147483648), 2147483647), []))) (.branch 496 (.leaf (496, 0, 69, .inr 2, [])) (.branch 500 (.leaf (497, 0, 12, .inl ((-2147483648), 2147483647), [])) (.leaf (501, 0, 69, .inr 2, []))))), [(0, 69)], [], []), [.inl (0, 1)], (139, [(0, (-1))])), (([(168, 43, [(1, .inl (0, [(6, 1)])), (0, .inr (.inl 469))], []), (243, 17, [(1, .inl (0, [(0, 1)])), (0, .inr (.inl 469))], [])], .branch 476 (.branch 473 (.branch 472 (.leaf (470, 112, 73, .inr 3, [((11, []), .inr (.inl 472)), ((12, []), .inr (.inl 473)), ((13, []), .inr (.inl 474)), ((14, []), .inr (.inl 475)), ((15, []), .inr (.inl 476)), ((24, []), .inr (.inl 485)), ((40, []), .inr (.inl 495)), ((41, []), .inr (.inl 496)), ((55, []), .inr (.inl 500)), ((34, []), .inl (0, [(1, 1)])), ((42, []), .inl (0, [(2, 1)])), ((43, []), .inl (0, [(3, 1)])), ((44, []), .inl (0, [(4, 1)])), ((46, []), .inr (.inr (.inr (.inl (0, 1))))), ((45, []), .inl (0, [(5, 1)]))])) (.leaf (473, 0, 2, .inl ((-2147483648), 2147483647), []))) (.branch 474 (.leaf (474, 0, 2, .inl ((-2147483648), 2147483647), [((0, [(1, 1)]), .inl (0, [(2, 1)]))])) (.branch 475 (.leaf (475, 0, 2, .inl ((-2147483648), 2147483647), [((0, [(1, 1)]), .inl (0, [(3, 1)]))])) (.leaf (476, 0, 2, .inl ((-2147483648), 2147483647), [((0, [(1, 1)]), .inl (0, [(4, 1)]))]))))) (.branch 495 (.branch 485 (.leaf (477, 0, 2, .inl ((-2147483648), 2147483647), [((0, [(1, 1)]), .inl (0, [(5, 1)]))])) (.leaf (486, 0, 24, .inl ((-2147483648), 2147483647), []))) (.branch 496 (.leaf (496, 0, 69, .inr 2, [])) (.branch 500 (.leaf (497, 0, 12, .inl ((-2147483648), 2147483647), [])) (.leaf (501, 0, 69, .inr 2, []))))), [(69, 69), (0, 1), ((-2147483648), 2147483647), ((-2147483648), 2147483647), ((-2147483648), 2147483647), ((-2147483648), 2147483647), (0, 12)], [], []), [.inl (1, 1), .inr (.inr (469, (34, []))), .inr (.inr (469, (42, []))), .inr (.inr (469, (43, []))), .inr (.inr (469, (44, []))), .inr (.inr (469, (45, []))), .inl (0, 1)], (12, [(6, (-1))]))]
def zs_2024 : List zCt := []
theorem za_2024 : zwin zw_2024 zc_2024.2.2.2.2.2.1 = true := by decide +kernel
theorem z0_2024 : zst0 mi_P zw_2024 [] [] (fun d y as t en => zcal zw_2024 d y as t en zs_2024) zc_2024 zp_2024 zu_2024 336 = true := by decide +kernel
theorem zk_2024 : zu_2024.all (zck mi_P zc_2024.2.1 zw_2024 false [] [] (fun d y as t en => zcal zw_2024 d y as t en zs_2024) zc_2024.2.2.2.1.length zc_2024.2.2.2.1 zc_2024.2.2.2.2.2.1 zp_2024 zu_2024 336) = true := by decide +kernel
theorem zt_2024 {S : Nat × (Nat → Int32)} : zCtr mi_P S zTt zc_2024 := by
  have hc : ∀ c ∈ zs_2024, zCtr mi_P S zTt c := fun c hc => by cases hc
  exact zCtr_of (Om := zTt) (ct := zc_2024) (ps := zp_2024) (fun _ _ _ _ => trivial) rfl hc za_2024 z0_2024 zk_2024
/-- LModel.areThrough()Z -/
def zw_2025 : zW := .leaf (0, [])
def zp_2025 : List (zPo × List (Nat ⊕ (Nat × zL))) := [(([], [], [], some (.inr (.inr (.inr (.inl (0, 1)))))), [])]
def zc_2025 : zCt := (238, 0, [.inr (.inl 469)], [], [], .branch 480 (.leaf (470, 112, 73, .inr 3, [((19, []), .inr (.inl 480)), ((34, []), .inr (.inr (.inr (.inl (0, 1))))), ((40, []), .inr (.inl 495))])) (.branch 495 (.leaf (481, 0, 2, .inl (0, 12), [])) (.leaf (496, 0, 69, .inr 2, []))), zw_2025, [], zp_2025.map (fun p => p.1))
def zu_2025 : List zCu := [(([(238, 2, [(1, .inl (0, [(0, 1)])), (0, .inr (.inl 469))], [])], .branch 480 (.leaf (470, 112, 73, .inr 3, [((19, []), .inr (.inl 480)), ((34, []), .inr (.inr (.inr (.inl (0, 1))))), ((40, []), .inr (.inl 495))])) (.branch 495 (.leaf (481, 0, 2, .inl (0, 12), [])) (.leaf (496, 0, 69, .inr 2, []))), [(0, 12)], [], []), [.inl (0, 1)], (12, [(0, (-1))]))]
def zs_2025 : List zCt := []
theorem za_2025 : zwin zw_2025 zc_2025.2.2.2.2.2.1 = true := by decide +kernel
theorem z0_2025 : zst0 mi_P zw_2025 [] [] (fun d y as t en => zcal zw_2025 d y as t en zs_2025) zc_2025 zp_2025 zu_2025 238 = true := by decide +kernel
theorem zk_2025 : zu_2025.all (zck mi_P zc_2025.2.1 zw_2025 false [] [] (fun d y as t en => zcal zw_2025 d y as t en zs_2025) zc_2025.2.2.2.1.length zc_2025.2.2.2.1 zc_2025.2.2.2.2.2.1 zp_2025 zu_2025 238) = true := by decide +kernel
theorem zt_2025 {S : Nat × (Nat → Int32)} : zCtr mi_P S zTt zc_2025 := by
  have hc : ∀ c ∈ zs_2025, zCtr mi_P S zTt c := fun c hc => by cases hc
  exact zCtr_of (Om := zTt) (ct := zc_2025) (ps := zp_2025) (fun _ _ _ _ => trivial) rfl hc za_2025 z0_2025 zk_2025
/-- LModel.clearPeaks()V -/
def zw_2026 : zW := .branch 497 (.leaf (470, [49, 50, 51])) (.branch 498 (.leaf (498, [0])) (.leaf (499, [0])))
def zp_2026 : List (zPo × List (Nat ⊕ (Nat × zL))) := [(([], [], [(469, [((49, []), zaI), ((50, []), zaI), ((51, []), zaI)]), (497, []), (498, [])], none), [])]
def zc_2026 : zCt := (237, 0, [.inr (.inl 469)], [], [], .branch 497 (.leaf (470, 112, 73, .inr 3, [((47, []), .inr (.inl 497)), ((48, []), .inr (.inl 498)), ((49, []), zaI), ((50, []), zaI), ((51, []), zaI)])) (.branch 498 (.leaf (498, 0, 3, .inl ((-2147483648), 2147483647), [])) (.leaf (499, 0, 2, .inl ((-2147483648), 2147483647), []))), zw_2026, [], zp_2026.map (fun p => p.1))
def zu_2026 : List zCu := [(([(237, 2, [(1, .inl (0, [(0, 1)])), (0, .inr (.inl 469))], [])], .branch 497 (.leaf (470, 112, 73, .inr 3, [((47, []), .inr (.inl 497)), ((48, []), .inr (.inl 498)), ((49, []), zaI), ((50, []), zaI), ((51, []), zaI)])) (.branch 498 (.leaf (498, 0, 3, .inl ((-2147483648), 2147483647), [])) (.leaf (499, 0, 2, .inl ((-2147483648), 2147483647), []))), [(0, 3)], [], []), [.inl (0, 1)], (3, [(0, (-1))]))]
def zs_2026 : List zCt := []
theorem za_2026 : zwin zw_2026 zc_2026.2.2.2.2.2.1 = true := by decide +kernel
theorem z0_2026 : zst0 mi_P zw_2026 [] [] (fun d y as t en => zcal zw_2026 d y as t en zs_2026) zc_2026 zp_2026 zu_2026 258 = true := by decide +kernel
theorem zk_2026 : zu_2026.all (zck mi_P zc_2026.2.1 zw_2026 false [] [] (fun d y as t en => zcal zw_2026 d y as t en zs_2026) zc_2026.2.2.2.1.length zc_2026.2.2.2.1 zc_2026.2.2.2.2.2.1 zp_2026 zu_2026 258) = true := by decide +kernel
theorem zt_2026 {S : Nat × (Nat → Int32)} : zCtr mi_P S zTt zc_2026 := by
  have hc : ∀ c ∈ zs_2026, zCtr mi_P S zTt c := fun c hc => by cases hc
  exact zCtr_of (Om := zTt) (ct := zc_2026) (ps := zp_2026) (fun _ _ _ _ => trivial) rfl hc za_2026 z0_2026 zk_2026
/-- LModel.longestWait()I -/
def zw_2028 : zW := .leaf (0, [])
def zp_2028 : List (zPo × List (Nat ⊕ (Nat × zL))) := [(([], [], [], some (zaI)), [])]
def zc_2028 : zCt := (239, 1, [.inr (.inl 469)], [], [], .branch 495 (.branch 480 (.leaf (470, 112, 73, .inr 3, [((19, []), .inr (.inl 480)), ((34, []), .inr (.inr (.inr (.inl (0, 1))))), ((40, []), .inr (.inl 495)), ((41, []), .inr (.inl 496))])) (.leaf (481, 0, 2, .inl (0, 12), []))) (.branch 496 (.leaf (496, 0, 69, .inr 2, [])) (.leaf (497, 0, 12, .inl ((-2147483648), 2147483647), []))), zw_2028, [], zp_2028.map (fun p => p.1))
def zu_2028 : List zCu := [(([(239, 4, [(2, .inl (0, [(0, 1)])), (1, .inl (0, [(1, 1)])), (0, .inr (.inl 469))], [])], .branch 495 (.branch 480 (.leaf (470, 112, 73, .inr 3, [((19, []), .inr (.inl 480)), ((34, []), .inr (.inr (.inr (.inl (0, 1))))), ((40, []), .inr (.inl 495)), ((41, []), .inr (.inl 496))])) (.leaf (481, 0, 2, .inl (0, 12), []))) (.branch 496 (.leaf (496, 0, 69, .inr 2, [])) (.leaf (497, 0, 12, .inl ((-2147483648), 2147483647), []))), [(0, 12), ((-2147483648), 2147483647)], [], []), [.inl (0, 2), .inl (0, 1)], (12, [(0, (-1))]))]
def zs_2028 : List zCt := []
theorem za_2028 : zwin zw_2028 zc_2028.2.2.2.2.2.1 = true := by decide +kernel
theorem z0_2028 : zst0 mi_P zw_2028 [] [] (fun d y as t en => zcal zw_2028 d y as t en zs_2028) zc_2028 zp_2028 zu_2028 370 = true := by decide +kernel
theorem zk_2028 : zu_2028.all (zck mi_P zc_2028.2.1 zw_2028 false [] [] (fun d y as t en => zcal zw_2028 d y as t en zs_2028) zc_2028.2.2.2.1.length zc_2028.2.2.2.1 zc_2028.2.2.2.2.2.1 zp_2028 zu_2028 370) = true := by decide +kernel
theorem zt_2028 {S : Nat × (Nat → Int32)} : zCtr mi_P S zTt zc_2028 := by
  have hc : ∀ c ∈ zs_2028, zCtr mi_P S zTt c := fun c hc => by cases hc
  exact zCtr_of (Om := zTt) (ct := zc_2028) (ps := zp_2028) (fun _ _ _ _ => trivial) rfl hc za_2028 z0_2028 zk_2028
/-- LModel.waits()I -/
def zw_2029 : zW := .leaf (0, [])
def zp_2029 : List (zPo × List (Nat ⊕ (Nat × zL))) := [(([], [], [], some (zaI)), [])]
def zc_2029 : zCt := (240, 1, [.inr (.inl 469)], [], [], .branch 495 (.branch 480 (.leaf (470, 112, 73, .inr 3, [((19, []), .inr (.inl 480)), ((34, []), .inr (.inr (.inr (.inl (0, 1))))), ((40, []), .inr (.inl 495)), ((41, []), .inr (.inl 496))])) (.leaf (481, 0, 2, .inl (0, 12), []))) (.branch 496 (.leaf (496, 0, 69, .inr 2, [])) (.leaf (497, 0, 12, .inl ((-2147483648), 2147483647), []))), zw_2029, [], zp_2029.map (fun p => p.1))
def zu_2029 : List zCu := [(([(240, 4, [(2, .inl (0, [(0, 1)])), (1, .inl (0, [(1, 1)])), (0, .inr (.inl 469))], [])], .branch 495 (.branch 480 (.leaf (470, 112, 73, .inr 3, [((19, []), .inr (.inl 480)), ((34, []), .inr (.inr (.inr (.inl (0, 1))))), ((40, []), .inr (.inl 495)), ((41, []), .inr (.inl 496))])) (.leaf (481, 0, 2, .inl (0, 12), []))) (.branch 496 (.leaf (496, 0, 69, .inr 2, [])) (.leaf (497, 0, 12, .inl ((-2147483648), 2147483647), []))), [(0, 12), ((-2147483648), 2147483647)], [], []), [.inl (0, 2), .inl (0, 1)], (12, [(0, (-1))]))]
def zs_2029 : List zCt := []
theorem za_2029 : zwin zw_2029 zc_2029.2.2.2.2.2.1 = true := by decide +kernel
theorem z0_2029 : zst0 mi_P zw_2029 [] [] (fun d y as t en => zcal zw_2029 d y as t en zs_2029) zc_2029 zp_2029 zu_2029 338 = true := by decide +kernel
theorem zk_2029 : zu_2029.all (zck mi_P zc_2029.2.1 zw_2029 false [] [] (fun d y as t en => zcal zw_2029 d y as t en zs_2029) zc_2029.2.2.2.1.length zc_2029.2.2.2.1 zc_2029.2.2.2.2.2.1 zp_2029 zu_2029 338) = true := by decide +kernel
theorem zt_2029 {S : Nat × (Nat → Int32)} : zCtr mi_P S zTt zc_2029 := by
  have hc : ∀ c ∈ zs_2029, zCtr mi_P S zTt c := fun c hc => by cases hc
  exact zCtr_of (Om := zTt) (ct := zc_2029) (ps := zp_2029) (fun _ _ _ _ => trivial) rfl hc za_2029 z0_2029 zk_2029
/-- LModel.outside()I -/
def zw_2030 : zW := .leaf (0, [])
def zp_2030 : List (zPo × List (Nat ⊕ (Nat × zL))) := [(([], [], [], some (zaI)), [])]
def zc_2030 : zCt := (241, 0, [.inr (.inl 469)], [], [], .branch 479 (.leaf (470, 112, 73, .inr 3, [((18, []), .inr (.inl 479)), ((34, []), .inr (.inr (.inr (.inl (0, 1))))), ((40, []), .inr (.inl 495))])) (.branch 495 (.leaf (480, 0, 2, .inl (0, 4), [])) (.leaf (496, 0, 69, .inr 2, []))), zw_2030, [], zp_2030.map (fun p => p.1))
def zu_2030 : List zCu := [(([(241, 4, [(2, .inl (0, [(0, 1)])), (1, .inl (0, [(1, 1)])), (0, .inr (.inl 469))], [])], .branch 479 (.leaf (470, 112, 73, .inr 3, [((18, []), .inr (.inl 479)), ((34, []), .inr (.inr (.inr (.inl (0, 1))))), ((40, []), .inr (.inl 495))])) (.branch 495 (.leaf (480, 0, 2, .inl (0, 4), [])) (.leaf (496, 0, 69, .inr 2, []))), [(0, 4), ((-2147483648), 2147483647)], [], []), [.inl (0, 2), .inl (0, 1)], (4, [(0, (-1))]))]
def zs_2030 : List zCt := []
theorem za_2030 : zwin zw_2030 zc_2030.2.2.2.2.2.1 = true := by decide +kernel
theorem z0_2030 : zst0 mi_P zw_2030 [] [] (fun d y as t en => zcal zw_2030 d y as t en zs_2030) zc_2030 zp_2030 zu_2030 246 = true := by decide +kernel
theorem zk_2030 : zu_2030.all (zck mi_P zc_2030.2.1 zw_2030 false [] [] (fun d y as t en => zcal zw_2030 d y as t en zs_2030) zc_2030.2.2.2.1.length zc_2030.2.2.2.1 zc_2030.2.2.2.2.2.1 zp_2030 zu_2030 246) = true := by decide +kernel
theorem zt_2030 {S : Nat × (Nat → Int32)} : zCtr mi_P S zTt zc_2030 := by
  have hc : ∀ c ∈ zs_2030, zCtr mi_P S zTt c := fun c hc => by cases hc
  exact zCtr_of (Om := zTt) (ct := zc_2030) (ps := zp_2030) (fun _ _ _ _ => trivial) rfl hc za_2030 z0_2030 zk_2030
/-- LModel.headsThrough()I -/
def zw_2031 : zW := .leaf (0, [])
def zp_2031 : List (zPo × List (Nat ⊕ (Nat × zL))) := [(([], [], [], some (zaI)), [])]
def zc_2031 : zCt := (242, 1, [.inr (.inl 469)], [], [], .branch 483 (.branch 480 (.leaf (470, 112, 73, .inr 3, [((19, []), .inr (.inl 480)), ((22, []), .inr (.inl 483)), ((34, []), .inr (.inr (.inr (.inl (0, 1))))), ((40, []), .inr (.inl 495))])) (.leaf (481, 0, 2, .inl (0, 12), []))) (.branch 495 (.leaf (484, 0, 24, .inl ((-2147483648), 2147483647), [])) (.leaf (496, 0, 69, .inr 2, []))), zw_2031, [], zp_2031.map (fun p => p.1))
def zu_2031 : List zCu := [(([(242, 4, [(2, .inl (0, [(0, 1)])), (1, .inl (0, [(1, 1)])), (0, .inr (.inl 469))], [])], .branch 483 (.branch 480 (.leaf (470, 112, 73, .inr 3, [((19, []), .inr (.inl 480)), ((22, []), .inr (.inl 483)), ((34, []), .inr (.inr (.inr (.inl (0, 1))))), ((40, []), .inr (.inl 495))])) (.leaf (481, 0, 2, .inl (0, 12), []))) (.branch 495 (.leaf (484, 0, 24, .inl ((-2147483648), 2147483647), [])) (.leaf (496, 0, 69, .inr 2, []))), [(0, 12), ((-2147483648), 2147483647)], [], []), [.inl (0, 2), .inl (0, 1)], (12, [(0, (-1))]))]
def zs_2031 : List zCt := []
theorem za_2031 : zwin zw_2031 zc_2031.2.2.2.2.2.1 = true := by decide +kernel
theorem z0_2031 : zst0 mi_P zw_2031 [] [] (fun d y as t en => zcal zw_2031 d y as t en zs_2031) zc_2031 zp_2031 zu_2031 280 = true := by decide +kernel
theorem zk_2031 : zu_2031.all (zck mi_P zc_2031.2.1 zw_2031 false [] [] (fun d y as t en => zcal zw_2031 d y as t en zs_2031) zc_2031.2.2.2.1.length zc_2031.2.2.2.1 zc_2031.2.2.2.2.2.1 zp_2031 zu_2031 280) = true := by decide +kernel
theorem zt_2031 {S : Nat × (Nat → Int32)} : zCtr mi_P S zTt zc_2031 := by
  have hc : ∀ c ∈ zs_2031, zCtr mi_P S zTt c := fun c hc => by cases hc
  exact zCtr_of (Om := zTt) (ct := zc_2031) (ps := zp_2031) (fun _ _ _ _ => trivial) rfl hc za_2031 z0_2031 zk_2031
/-- LModel.laySpan(II)V -/
def zw_2033 : zW := .leaf (470, [68, 69, 70])
def zp_2033 : List (zPo × List (Nat ⊕ (Nat × zL))) := [(([], [], [(469, [((68, []), zaI), ((69, []), zaI), ((70, []), zaI)])], none), [])]
def zc_2033 : zCt := (270, 0, [.inr (.inl 469), zaI, zaI], [], [], .branch 506 (.branch 504 (.leaf (470, 112, 73, .inr 3, [((60, []), .inr (.inl 504)), ((61, []), .inr (.inl 505)), ((62, []), .inr (.inl 506)), ((63, []), .inr (.inl 507)), ((64, []), .inr (.inl 508)), ((65, []), .inr (.inl 509)), ((66, []), .inr (.inr (.inr (.inl (0, 30))))), ((68, []), zaI), ((69, []), zaI), ((70, []), zaI)])) (.branch 505 (.leaf (505, 0, 30, .inl ((-2147483648), 2147483647), [])) (.leaf (506, 0, 30, .inl ((-2147483648), 2147483647), [])))) (.branch 508 (.branch 507 (.leaf (507, 0, 30, .inl ((-2147483648), 2147483647), [])) (.leaf (508, 0, 30, .inl ((-2147483648), 2147483647), []))) (.branch 509 (.leaf (509, 0, 30, .inl ((-2147483648), 2147483647), [])) (.leaf (510, 0, 30, .inl ((-2147483648), 2147483647), [])))), zw_2033, [], zp_2033.map (fun p => p.1))
def zu_2033 : List zCu := [(([(270, 11, [(3, .inl (0, [(2, 1)])), (0, .inr (.inl 469)), (1, .inl (0, [(0, 1)])), (2, .inl (0, [(1, 1)]))], [])], .branch 506 (.branch 504 (.leaf (470, 112, 73, .inr 3, [((60, []), .inr (.inl 504)), ((61, []), .inr (.inl 505)), ((62, []), .inr (.inl 506)), ((63, []), .inr (.inl 507)), ((64, []), .inr (.inl 508)), ((65, []), .inr (.inl 509)), ((66, []), .inr (.inr (.inr (.inl (0, 30))))), ((68, []), .inr (.inr (.inr (.inl (0, 2147483647))))), ((69, []), .inr (.inr (.inr (.inl ((-2147483648), 480))))), ((70, []), .inr (.inr (.inr (.inl ((-1), 2147483647)))))])) (.branch 505 (.leaf (505, 0, 30, .inl ((-2147483648), 2147483647), [])) (.leaf (506, 0, 30, .inl ((-2147483648), 2147483647), [])))) (.branch 508 (.branch 507 (.leaf (507, 0, 30, .inl ((-2147483648), 2147483647), [])) (.leaf (508, 0, 30, .inl ((-2147483648), 2147483647), []))) (.branch 509 (.leaf (509, 0, 30, .inl ((-2147483648), 2147483647), [])) (.leaf (510, 0, 30, .inl ((-2147483648), 2147483647), [])))), [((-2147483648), 2147483647), ((-2147483648), 2147483647), (0, 30)], [], []), [.inl (0, 1), .inl (0, 2), .inl (0, 3)], (30, [(2, (-1))]))]
def zs_2033 : List zCt := []
theorem za_2033 : zwin zw_2033 zc_2033.2.2.2.2.2.1 = true := by decide +kernel
theorem z0_2033 : zst0 mi_P zw_2033 [] [] (fun d y as t en => zcal zw_2033 d y as t en zs_2033) zc_2033 zp_2033 zu_2033 696 = true := by decide +kernel
theorem zk_2033 : zu_2033.all (zck mi_P zc_2033.2.1 zw_2033 false [] [] (fun d y as t en => zcal zw_2033 d y as t en zs_2033) zc_2033.2.2.2.1.length zc_2033.2.2.2.1 zc_2033.2.2.2.2.2.1 zp_2033 zu_2033 696) = true := by decide +kernel
theorem zt_2033 {S : Nat × (Nat → Int32)} : zCtr mi_P S zTt zc_2033 := by
  have hc : ∀ c ∈ zs_2033, zCtr mi_P S zTt c := fun c hc => by cases hc
  exact zCtr_of (Om := zTt) (ct := zc_2033) (ps := zp_2033) (fun _ _ _ _ => trivial) rfl hc za_2033 z0_2033 zk_2033
/-- LModel.exchange()V -/
def zw_2034 : zW := .branch 499 (.leaf (496, [0])) (.leaf (500, [0]))
def zp_2034 : List (zPo × List (Nat ⊕ (Nat × zL))) := [(([], [], [(495, []), (499, [])], none), [])]
def zc_2034 : zCt := (232, 0, [.inr (.inl 469)], [], [], .branch 495 (.leaf (470, 112, 73, .inr 3, [((40, []), .inr (.inl 495)), ((52, []), .inr (.inl 499)), ((53, []), .inr (.inr (.inr (.inl (0, 40)))))])) (.branch 499 (.leaf (496, 0, 69, .inr 2, [])) (.leaf (500, 0, 2829, .inr 2, []))), zw_2034, [], zp_2034.map (fun p => p.1))
def zu_2034 : List zCu := [(([(232, 2, [(1, .inl (0, [(0, 1)])), (0, .inr (.inl 469))], [])], .branch 495 (.leaf (470, 112, 73, .inr 3, [((40, []), .inr (.inl 495)), ((52, []), .inr (.inl 499)), ((53, []), .inr (.inr (.inr (.inl (0, 40)))))])) (.branch 499 (.leaf (496, 0, 69, .inr 2, [])) (.leaf (500, 0, 2829, .inr 2, []))), [(0, 69)], [], []), [.inl (0, 1)], (69, [(0, (-1))]))]
def zs_2034 : List zCt := []
theorem za_2034 : zwin zw_2034 zc_2034.2.2.2.2.2.1 = true := by decide +kernel
theorem z0_2034 : zst0 mi_P zw_2034 [] [] (fun d y as t en => zcal zw_2034 d y as t en zs_2034) zc_2034 zp_2034 zu_2034 266 = true := by decide +kernel
theorem zk_2034 : zu_2034.all (zck mi_P zc_2034.2.1 zw_2034 false [] [] (fun d y as t en => zcal zw_2034 d y as t en zs_2034) zc_2034.2.2.2.1.length zc_2034.2.2.2.1 zc_2034.2.2.2.2.2.1 zp_2034 zu_2034 266) = true := by decide +kernel
theorem zt_2034 {S : Nat × (Nat → Int32)} : zCtr mi_P S zTt zc_2034 := by
  have hc : ∀ c ∈ zs_2034, zCtr mi_P S zTt c := fun c hc => by cases hc
  exact zCtr_of (Om := zTt) (ct := zc_2034) (ps := zp_2034) (fun _ _ _ _ => trivial) rfl hc za_2034 z0_2034 zk_2034
/-- LModel.undo()Z -/
def zw_2035 : zW := .branch 495 (.leaf (470, [53, 54])) (.branch 499 (.leaf (496, [0])) (.leaf (500, [0])))
def zp_2035 : List (zPo × List (Nat ⊕ (Nat × zL))) := [(([(0, 40), (0, 40)], [((-40), [(2, 1), (3, 1)])], [(469, [((53, []), .inl (0, [(2, 1)])), ((54, []), .inl (0, [(3, 1)]))]), (495, []), (499, [])], some (.inr (.inr (.inr (.inl (0, 1)))))), [.inr (469, (53, [])), .inr (469, (54, []))])]
def zc_2035 : zCt := (231, 1, [.inr (.inl 469)], [(0, 40), (0, 40)], [((-40), [(0, 1), (1, 1)])], .branch 495 (.leaf (470, 112, 73, .inr 3, [((40, []), .inr (.inl 495)), ((52, []), .inr (.inl 499)), ((53, []), .inl (0, [(0, 1)])), ((54, []), .inl (0, [(1, 1)]))])) (.branch 499 (.leaf (496, 0, 69, .inr 2, [])) (.leaf (500, 0, 2829, .inr 2, []))), zw_2035, [.inr (469, (53, [])), .inr (469, (54, []))], zp_2035.map (fun p => p.1))
def zu_2035 : List zCu := []
def zs_2035 : List zCt := [zc_2034]
theorem za_2035 : zwin zw_2035 zc_2035.2.2.2.2.2.1 = true := by decide +kernel
theorem z0_2035 : zst0 mi_P zw_2035 [] [] (fun d y as t en => zcal zw_2035 d y as t en zs_2035) zc_2035 zp_2035 zu_2035 238 = true := by decide +kernel
theorem zk_2035 : zu_2035.all (zck mi_P zc_2035.2.1 zw_2035 false [] [] (fun d y as t en => zcal zw_2035 d y as t en zs_2035) zc_2035.2.2.2.1.length zc_2035.2.2.2.1 zc_2035.2.2.2.2.2.1 zp_2035 zu_2035 238) = true := by decide +kernel
theorem zt_2035 {S : Nat × (Nat → Int32)} : zCtr mi_P S zTt zc_2035 := by
  have hc : ∀ c ∈ zs_2035, zCtr mi_P S zTt c := by
    intro c hc
    simp only [zs_2035, List.mem_cons, List.not_mem_nil, or_false] at hc
    rcases hc with rfl
    · exact zt_2034
  exact zCtr_of (Om := zTt) (ct := zc_2035) (ps := zp_2035) (fun _ _ _ _ => trivial) rfl hc za_2035 z0_2035 zk_2035
/-- LModel.redo()Z -/
def zw_2036 : zW := .branch 495 (.leaf (470, [53, 54])) (.branch 499 (.leaf (496, [0])) (.leaf (500, [0])))
def zp_2036 : List (zPo × List (Nat ⊕ (Nat × zL))) := [(([(0, 40), (0, 40)], [((-40), [(2, 1), (3, 1)])], [(469, [((53, []), .inl (0, [(2, 1)])), ((54, []), .inl (0, [(3, 1)]))]), (495, []), (499, [])], some (.inr (.inr (.inr (.inl (0, 1)))))), [.inr (469, (53, [])), .inr (469, (54, []))])]
def zc_2036 : zCt := (233, 1, [.inr (.inl 469)], [(0, 40), (0, 40)], [((-40), [(0, 1), (1, 1)])], .branch 495 (.leaf (470, 112, 73, .inr 3, [((40, []), .inr (.inl 495)), ((52, []), .inr (.inl 499)), ((53, []), .inl (0, [(0, 1)])), ((54, []), .inl (0, [(1, 1)]))])) (.branch 499 (.leaf (496, 0, 69, .inr 2, [])) (.leaf (500, 0, 2829, .inr 2, []))), zw_2036, [.inr (469, (53, [])), .inr (469, (54, []))], zp_2036.map (fun p => p.1))
def zu_2036 : List zCu := []
def zs_2036 : List zCt := [zc_2034]
theorem za_2036 : zwin zw_2036 zc_2036.2.2.2.2.2.1 = true := by decide +kernel
theorem z0_2036 : zst0 mi_P zw_2036 [] [] (fun d y as t en => zcal zw_2036 d y as t en zs_2036) zc_2036 zp_2036 zu_2036 238 = true := by decide +kernel
theorem zk_2036 : zu_2036.all (zck mi_P zc_2036.2.1 zw_2036 false [] [] (fun d y as t en => zcal zw_2036 d y as t en zs_2036) zc_2036.2.2.2.1.length zc_2036.2.2.2.1 zc_2036.2.2.2.2.2.1 zp_2036 zu_2036 238) = true := by decide +kernel
theorem zt_2036 {S : Nat × (Nat → Int32)} : zCtr mi_P S zTt zc_2036 := by
  have hc : ∀ c ∈ zs_2036, zCtr mi_P S zTt c := by
    intro c hc
    simp only [zs_2036, List.mem_cons, List.not_mem_nil, or_false] at hc
    rcases hc with rfl
    · exact zt_2034
  exact zCtr_of (Om := zTt) (ct := zc_2036) (ps := zp_2036) (fun _ _ _ _ => trivial) rfl hc za_2036 z0_2036 zk_2036
/-- LModel.feed(IIIII)I -/
def zw_2037 : zW := .branch 470 (.leaf (470, [2])) (.leaf (471, [0]))
def zp_2037 : List (zPo × List (Nat ⊕ (Nat × zL))) := [(([], [], [(469, [((2, []), .inr (.inr (.inr (.inl (0, 1600)))))]), (470, [])], some (.inr (.inr (.inr (.inl ((-1), 1600)))))), [])]
def zc_2037 : zCt := (276, 0, [.inr (.inl 469), zaI, zaI, zaI, zaI, zaI], [], [], .branch 470 (.leaf (470, 112, 73, .inr 3, [((0, []), .inr (.inl 470)), ((2, []), .inr (.inr (.inr (.inl (0, 1600)))))])) (.leaf (471, 1, 1620, .inl ((-128), 127), [])), zw_2037, [], zp_2037.map (fun p => p.1))
def zu_2037 : List zCu := [(([(276, 10, [(6, .inl (0, [(5, 1)])), (0, .inr (.inl 469)), (1, .inl (0, [(0, 1)])), (2, .inl (0, [(1, 1)])), (3, .inl (0, [(2, 1)])), (4, .inl (0, [(3, 1)])), (5, .inl (0, [(4, 1)]))], [])], .branch 470 (.leaf (470, 112, 73, .inr 3, [((0, []), .inr (.inl 470)), ((2, []), .inr (.inr (.inr (.inl (0, 1580)))))])) (.leaf (471, 1, 1620, .inl ((-128), 127), [])), [((-2147483648), 2147483647), ((-2147483648), 2147483647), ((-2147483648), 2147483647), ((-2147483648), 2147483647), ((-2147483648), 2147483647), (0, 20)], [], []), [.inl (0, 1), .inl (0, 2), .inl (0, 3), .inl (0, 4), .inl (0, 5), .inl (0, 6)], (20, [(5, (-1))]))]
def zs_2037 : List zCt := []
theorem za_2037 : zwin zw_2037 zc_2037.2.2.2.2.2.1 = true := by decide +kernel
theorem z0_2037 : zst0 mi_P zw_2037 [] [] (fun d y as t en => zcal zw_2037 d y as t en zs_2037) zc_2037 zp_2037 zu_2037 464 = true := by decide +kernel
theorem zk_2037 : zu_2037.all (zck mi_P zc_2037.2.1 zw_2037 false [] [] (fun d y as t en => zcal zw_2037 d y as t en zs_2037) zc_2037.2.2.2.1.length zc_2037.2.2.2.1 zc_2037.2.2.2.2.2.1 zp_2037 zu_2037 464) = true := by decide +kernel
theorem zt_2037 {S : Nat × (Nat → Int32)} : zCtr mi_P S zTt zc_2037 := by
  have hc : ∀ c ∈ zs_2037, zCtr mi_P S zTt c := fun c hc => by cases hc
  exact zCtr_of (Om := zTt) (ct := zc_2037) (ps := zp_2037) (fun _ _ _ _ => trivial) rfl hc za_2037 z0_2037 zk_2037
/-- LModel.end(I)I -/
def zw_2038 : zW := .leaf (470, [2])
def zp_2038 : List (zPo × List (Nat ⊕ (Nat × zL))) := [(([], [], [(469, [((2, []), .inr (.inr (.inr (.inl (0, 1600)))))])], some (.inr (.inr (.inr (.inl ((-1), 1600)))))), [])]
def zc_2038 : zCt := (277, 0, [.inr (.inl 469), zaI], [], [], .leaf (470, 112, 73, .inr 3, [((2, []), .inr (.inr (.inr (.inl (0, 1600)))))]), zw_2038, [], zp_2038.map (fun p => p.1))
def zu_2038 : List zCu := []
def zs_2038 : List zCt := []
theorem za_2038 : zwin zw_2038 zc_2038.2.2.2.2.2.1 = true := by decide +kernel
theorem z0_2038 : zst0 mi_P zw_2038 [] [] (fun d y as t en => zcal zw_2038 d y as t en zs_2038) zc_2038 zp_2038 zu_2038 224 = true := by decide +kernel
theorem zk_2038 : zu_2038.all (zck mi_P zc_2038.2.1 zw_2038 false [] [] (fun d y as t en => zcal zw_2038 d y as t en zs_2038) zc_2038.2.2.2.1.length zc_2038.2.2.2.1 zc_2038.2.2.2.2.2.1 zp_2038 zu_2038 224) = true := by decide +kernel
theorem zt_2038 {S : Nat × (Nat → Int32)} : zCtr mi_P S zTt zc_2038 := by
  have hc : ∀ c ∈ zs_2038, zCtr mi_P S zTt c := fun c hc => by cases hc
  exact zCtr_of (Om := zTt) (ct := zc_2038) (ps := zp_2038) (fun _ _ _ _ => trivial) rfl hc za_2038 z0_2038 zk_2038
/-- LModel.fault(I)I -/
def zw_2039 : zW := .leaf (0, [])
def zp_2039 : List (zPo × List (Nat ⊕ (Nat × zL))) := [(([], [], [], some (zaI)), [])]
def zc_2039 : zCt := (199, 0, [.inr (.inl 469), zaI], [], [], .leaf (470, 112, 73, .inr 3, [((4, []), .inr (.inr (.inr (.inl (0, 4))))), ((5, []), zaI)]), zw_2039, [], zp_2039.map (fun p => p.1))
def zu_2039 : List zCu := []
def zs_2039 : List zCt := []
theorem za_2039 : zwin zw_2039 zc_2039.2.2.2.2.2.1 = true := by decide +kernel
theorem z0_2039 : zst0 mi_P zw_2039 [] [] (fun d y as t en => zcal zw_2039 d y as t en zs_2039) zc_2039 zp_2039 zu_2039 224 = true := by decide +kernel
theorem zk_2039 : zu_2039.all (zck mi_P zc_2039.2.1 zw_2039 false [] [] (fun d y as t en => zcal zw_2039 d y as t en zs_2039) zc_2039.2.2.2.1.length zc_2039.2.2.2.1 zc_2039.2.2.2.2.2.1 zp_2039 zu_2039 224) = true := by decide +kernel
theorem zt_2039 {S : Nat × (Nat → Int32)} : zCtr mi_P S zTt zc_2039 := by
  have hc : ∀ c ∈ zs_2039, zCtr mi_P S zTt c := fun c hc => by cases hc
  exact zCtr_of (Om := zTt) (ct := zc_2039) (ps := zp_2039) (fun _ _ _ _ => trivial) rfl hc za_2039 z0_2039 zk_2039
/-- LModel.party(II)I -/
def zw_2041 : zW := .leaf (0, [])
def zp_2041 : List (zPo × List (Nat ⊕ (Nat × zL))) := [(([], [], [], some (zaI)), [])]
def zc_2041 : zCt := (207, 2, [.inr (.inl 469), zaI, zaI], [], [], .branch 485 (.branch 483 (.branch 480 (.leaf (470, 112, 73, .inr 3, [((19, []), .inr (.inl 480)), ((22, []), .inr (.inl 483)), ((23, []), .inr (.inl 484)), ((24, []), .inr (.inl 485)), ((27, []), .inr (.inl 488)), ((34, []), .inr (.inr (.inr (.inl (0, 1))))), ((40, []), .inr (.inl 495)), ((41, []), .inr (.inl 496))])) (.leaf (481, 0, 2, .inl (0, 12), []))) (.branch 484 (.leaf (484, 0, 24, .inl ((-2147483648), 2147483647), [])) (.leaf (485, 0, 24, .inl ((-2147483648), 2147483647), [])))) (.branch 495 (.branch 488 (.leaf (486, 0, 24, .inl ((-2147483648), 2147483647), [])) (.leaf (489, 2, 24, .inl (0, 1), []))) (.branch 496 (.leaf (496, 0, 69, .inr 2, [])) (.leaf (497, 0, 12, .inl ((-2147483648), 2147483647), [])))), zw_2041, [], zp_2041.map (fun p => p.1))
def zu_2041 : List zCu := []
def zs_2041 : List zCt := []
theorem za_2041 : zwin zw_2041 zc_2041.2.2.2.2.2.1 = true := by decide +kernel
theorem z0_2041 : zst0 mi_P zw_2041 [] [] (fun d y as t en => zcal zw_2041 d y as t en zs_2041) zc_2041 zp_2041 zu_2041 452 = true := by decide +kernel
theorem zk_2041 : zu_2041.all (zck mi_P zc_2041.2.1 zw_2041 false [] [] (fun d y as t en => zcal zw_2041 d y as t en zs_2041) zc_2041.2.2.2.1.length zc_2041.2.2.2.1 zc_2041.2.2.2.2.2.1 zp_2041 zu_2041 452) = true := by decide +kernel
theorem zt_2041 {S : Nat × (Nat → Int32)} : zCtr mi_P S zTt zc_2041 := by
  have hc : ∀ c ∈ zs_2041, zCtr mi_P S zTt c := fun c hc => by cases hc
  exact zCtr_of (Om := zTt) (ct := zc_2041) (ps := zp_2041) (fun _ _ _ _ => trivial) rfl hc za_2041 z0_2041 zk_2041
/-- LModel.door(I)I -/
def zw_2042 : zW := .leaf (0, [])
def zp_2042 : List (zPo × List (Nat ⊕ (Nat × zL))) := [(([], [], [], some (zaI)), [])]
def zc_2042 : zCt := (210, 1, [.inr (.inl 469), zaI], [], [], .branch 495 (.leaf (470, 112, 73, .inr 3, [((40, []), .inr (.inl 495))])) (.leaf (496, 0, 69, .inr 2, [])), zw_2042, [], zp_2042.map (fun p => p.1))
def zu_2042 : List zCu := []
def zs_2042 : List zCt := []
theorem za_2042 : zwin zw_2042 zc_2042.2.2.2.2.2.1 = true := by decide +kernel
theorem z0_2042 : zst0 mi_P zw_2042 [] [] (fun d y as t en => zcal zw_2042 d y as t en zs_2042) zc_2042 zp_2042 zu_2042 258 = true := by decide +kernel
theorem zk_2042 : zu_2042.all (zck mi_P zc_2042.2.1 zw_2042 false [] [] (fun d y as t en => zcal zw_2042 d y as t en zs_2042) zc_2042.2.2.2.1.length zc_2042.2.2.2.1 zc_2042.2.2.2.2.2.1 zp_2042 zu_2042 258) = true := by decide +kernel
theorem zt_2042 {S : Nat × (Nat → Int32)} : zCtr mi_P S zTt zc_2042 := by
  have hc : ∀ c ∈ zs_2042, zCtr mi_P S zTt c := fun c hc => by cases hc
  exact zCtr_of (Om := zTt) (ct := zc_2042) (ps := zp_2042) (fun _ _ _ _ => trivial) rfl hc za_2042 z0_2042 zk_2042
/-- LModel.line(I)I -/
def zw_2043 : zW := .leaf (0, [])
def zp_2043 : List (zPo × List (Nat ⊕ (Nat × zL))) := [(([], [], [], some (zaI)), [])]
def zc_2043 : zCt := (211, 1, [.inr (.inl 469), zaI], [], [], .branch 488 (.branch 480 (.leaf (470, 112, 73, .inr 3, [((19, []), .inr (.inl 480)), ((27, []), .inr (.inl 488)), ((34, []), .inr (.inr (.inr (.inl (0, 1))))), ((40, []), .inr (.inl 495))])) (.leaf (481, 0, 2, .inl (0, 12), []))) (.branch 495 (.leaf (489, 2, 24, .inl (0, 1), [])) (.leaf (496, 0, 69, .inr 2, []))), zw_2043, [], zp_2043.map (fun p => p.1))
def zu_2043 : List zCu := [(([(211, 11, [(3, .inl (0, [(1, 1)])), (2, .inl (0, [(2, 1)])), (0, .inr (.inl 469)), (1, .inl (0, [(0, 1)]))], [])], .branch 488 (.branch 480 (.leaf (470, 112, 73, .inr 3, [((19, []), .inr (.inl 480)), ((27, []), .inr (.inl 488)), ((34, []), .inr (.inr (.inr (.inl (0, 1))))), ((40, []), .inr (.inl 495))])) (.leaf (481, 0, 2, .inl (0, 12), []))) (.branch 495 (.leaf (489, 2, 24, .inl (0, 1), [])) (.leaf (496, 0, 69, .inr 2, []))), [(0, 2), (0, 12), ((-2147483648), 2147483647)], [], []), [.inl (0, 1), .inl (0, 3), .inl (0, 2)], (12, [(1, (-1))]))]
def zs_2043 : List zCt := []
theorem za_2043 : zwin zw_2043 zc_2043.2.2.2.2.2.1 = true := by decide +kernel
theorem z0_2043 : zst0 mi_P zw_2043 [] [] (fun d y as t en => zcal zw_2043 d y as t en zs_2043) zc_2043 zp_2043 zu_2043 448 = true := by decide +kernel
theorem zk_2043 : zu_2043.all (zck mi_P zc_2043.2.1 zw_2043 false [] [] (fun d y as t en => zcal zw_2043 d y as t en zs_2043) zc_2043.2.2.2.1.length zc_2043.2.2.2.1 zc_2043.2.2.2.2.2.1 zp_2043 zu_2043 448) = true := by decide +kernel
theorem zt_2043 {S : Nat × (Nat → Int32)} : zCtr mi_P S zTt zc_2043 := by
  have hc : ∀ c ∈ zs_2043, zCtr mi_P S zTt c := fun c hc => by cases hc
  exact zCtr_of (Om := zTt) (ct := zc_2043) (ps := zp_2043) (fun _ _ _ _ => trivial) rfl hc za_2043 z0_2043 zk_2043
/-- LModel.net(I)I -/
def zw_2045 : zW := .branch 495 (.leaf (470, [53, 54])) (.branch 499 (.leaf (496, [0])) (.leaf (500, [0])))
def zp_2045 : List (zPo × List (Nat ⊕ (Nat × zL))) := [(([(0, 40), (0, 40)], [((-40), [(2, 1), (3, 1)])], [(469, [((53, []), .inl (0, [(2, 1)])), ((54, []), .inl (0, [(3, 1)]))]), (495, []), (499, [])], some (zaI)), [.inr (469, (53, [])), .inr (469, (54, []))])]
def zc_2045 : zCt := (225, 2, [.inr (.inl 469), zaI], [(0, 40), (0, 40)], [((-40), [(0, 1), (1, 1)])], .branch 495 (.branch 479 (.leaf (470, 112, 73, .inr 3, [((18, []), .inr (.inl 479)), ((34, []), .inr (.inr (.inr (.inl (0, 1))))), ((40, []), .inr (.inl 495)), ((52, []), .inr (.inl 499)), ((53, []), .inl (0, [(0, 1)])), ((54, []), .inl (0, [(1, 1)]))])) (.leaf (480, 0, 2, .inl (0, 4), []))) (.branch 499 (.leaf (496, 0, 69, .inr 2, [])) (.leaf (500, 0, 2829, .inr 2, []))), zw_2045, [.inr (469, (53, [])), .inr (469, (54, []))], zp_2045.map (fun p => p.1))
def zu_2045 : List zCu := []
def zs_2045 : List zCt := [zc_2021]
theorem za_2045 : zwin zw_2045 zc_2045.2.2.2.2.2.1 = true := by decide +kernel
theorem z0_2045 : zst0 mi_P zw_2045 [] [] (fun d y as t en => zcal zw_2045 d y as t en zs_2045) zc_2045 zp_2045 zu_2045 366 = true := by decide +kernel
theorem zk_2045 : zu_2045.all (zck mi_P zc_2045.2.1 zw_2045 false [] [] (fun d y as t en => zcal zw_2045 d y as t en zs_2045) zc_2045.2.2.2.1.length zc_2045.2.2.2.1 zc_2045.2.2.2.2.2.1 zp_2045 zu_2045 366) = true := by decide +kernel
theorem zt_2045 {S : Nat × (Nat → Int32)} : zCtr mi_P S zTt zc_2045 := by
  have hc : ∀ c ∈ zs_2045, zCtr mi_P S zTt c := by
    intro c hc
    simp only [zs_2045, List.mem_cons, List.not_mem_nil, or_false] at hc
    rcases hc with rfl
    · exact zt_2021
  exact zCtr_of (Om := zTt) (ct := zc_2045) (ps := zp_2045) (fun _ _ _ _ => trivial) rfl hc za_2045 z0_2045 zk_2045
/-- LModel.food(II)I -/
def zw_2046 : zW := .branch 495 (.leaf (470, [53, 54])) (.branch 499 (.leaf (496, [0])) (.leaf (500, [0])))
def zp_2046 : List (zPo × List (Nat ⊕ (Nat × zL))) := [(([(0, 40), (0, 40)], [((-40), [(2, 1), (3, 1)])], [(469, [((53, []), .inl (0, [(2, 1)])), ((54, []), .inl (0, [(3, 1)]))]), (495, []), (499, [])], some (zaI)), [.inr (469, (53, [])), .inr (469, (54, []))])]
def zc_2046 : zCt := (226, 2, [.inr (.inl 469), zaI, zaI], [(0, 40), (0, 40)], [((-40), [(0, 1), (1, 1)])], .branch 495 (.branch 479 (.leaf (470, 112, 73, .inr 3, [((18, []), .inr (.inl 479)), ((34, []), .inr (.inr (.inr (.inl (0, 1))))), ((40, []), .inr (.inl 495)), ((52, []), .inr (.inl 499)), ((53, []), .inl (0, [(0, 1)])), ((54, []), .inl (0, [(1, 1)]))])) (.leaf (480, 0, 2, .inl (0, 4), []))) (.branch 499 (.leaf (496, 0, 69, .inr 2, [])) (.leaf (500, 0, 2829, .inr 2, []))), zw_2046, [.inr (469, (53, [])), .inr (469, (54, []))], zp_2046.map (fun p => p.1))
def zu_2046 : List zCu := []
def zs_2046 : List zCt := [zc_2021, zc_2014]
theorem za_2046 : zwin zw_2046 zc_2046.2.2.2.2.2.1 = true := by decide +kernel
theorem z0_2046 : zst0 mi_P zw_2046 [] [] (fun d y as t en => zcal zw_2046 d y as t en zs_2046) zc_2046 zp_2046 zu_2046 402 = true := by decide +kernel
theorem zk_2046 : zu_2046.all (zck mi_P zc_2046.2.1 zw_2046 false [] [] (fun d y as t en => zcal zw_2046 d y as t en zs_2046) zc_2046.2.2.2.1.length zc_2046.2.2.2.1 zc_2046.2.2.2.2.2.1 zp_2046 zu_2046 402) = true := by decide +kernel
theorem zt_2046 {S : Nat × (Nat → Int32)} : zCtr mi_P S zTt zc_2046 := by
  have hc : ∀ c ∈ zs_2046, zCtr mi_P S zTt c := by
    intro c hc
    simp only [zs_2046, List.mem_cons, List.not_mem_nil, or_false] at hc
    rcases hc with rfl | rfl
    · exact zt_2021
    · exact zt_2014
  exact zCtr_of (Om := zTt) (ct := zc_2046) (ps := zp_2046) (fun _ _ _ _ => trivial) rfl hc za_2046 z0_2046 zk_2046
/-- LModel.curtain(I)I -/
def zw_2047 : zW := .branch 495 (.leaf (470, [53, 54])) (.branch 499 (.leaf (496, [0])) (.leaf (500, [0])))
def zp_2047 : List (zPo × List (Nat ⊕ (Nat × zL))) := [(([(0, 40), (0, 40)], [((-40), [(2, 1), (3, 1)])], [(469, [((53, []), .inl (0, [(2, 1)])), ((54, []), .inl (0, [(3, 1)]))]), (495, []), (499, [])], some (zaI)), [.inr (469, (53, [])), .inr (469, (54, []))])]
def zc_2047 : zCt := (227, 1, [.inr (.inl 469), zaI], [(0, 40), (0, 40)], [((-40), [(0, 1), (1, 1)])], .branch 495 (.leaf (470, 112, 73, .inr 3, [((40, []), .inr (.inl 495)), ((52, []), .inr (.inl 499)), ((53, []), .inl (0, [(0, 1)])), ((54, []), .inl (0, [(1, 1)]))])) (.branch 499 (.leaf (496, 0, 69, .inr 2, [])) (.leaf (500, 0, 2829, .inr 2, []))), zw_2047, [.inr (469, (53, [])), .inr (469, (54, []))], zp_2047.map (fun p => p.1))
def zu_2047 : List zCu := []
def zs_2047 : List zCt := [zc_2021]
theorem za_2047 : zwin zw_2047 zc_2047.2.2.2.2.2.1 = true := by decide +kernel
theorem z0_2047 : zst0 mi_P zw_2047 [] [] (fun d y as t en => zcal zw_2047 d y as t en zs_2047) zc_2047 zp_2047 zu_2047 270 = true := by decide +kernel
theorem zk_2047 : zu_2047.all (zck mi_P zc_2047.2.1 zw_2047 false [] [] (fun d y as t en => zcal zw_2047 d y as t en zs_2047) zc_2047.2.2.2.1.length zc_2047.2.2.2.1 zc_2047.2.2.2.2.2.1 zp_2047 zu_2047 270) = true := by decide +kernel
theorem zt_2047 {S : Nat × (Nat → Int32)} : zCtr mi_P S zTt zc_2047 := by
  have hc : ∀ c ∈ zs_2047, zCtr mi_P S zTt c := by
    intro c hc
    simp only [zs_2047, List.mem_cons, List.not_mem_nil, or_false] at hc
    rcases hc with rfl
    · exact zt_2021
  exact zCtr_of (Om := zTt) (ct := zc_2047) (ps := zp_2047) (fun _ _ _ _ => trivial) rfl hc za_2047 z0_2047 zk_2047
/-- LModel.dusk()Z -/
def zw_2048 : zW := .branch 495 (.leaf (470, [53, 54])) (.branch 499 (.leaf (496, [0])) (.leaf (500, [0])))
def zp_2048 : List (zPo × List (Nat ⊕ (Nat × zL))) := [(([(0, 40), (0, 40)], [((-40), [(2, 1), (3, 1)])], [(469, [((53, []), .inl (0, [(2, 1)])), ((54, []), .inl (0, [(3, 1)]))]), (495, []), (499, [])], some (.inr (.inr (.inr (.inl (0, 1)))))), [.inr (469, (53, [])), .inr (469, (54, []))])]
def zc_2048 : zCt := (228, 1, [.inr (.inl 469)], [(0, 40), (0, 40)], [((-40), [(0, 1), (1, 1)])], .branch 495 (.leaf (470, 112, 73, .inr 3, [((40, []), .inr (.inl 495)), ((52, []), .inr (.inl 499)), ((53, []), .inl (0, [(0, 1)])), ((54, []), .inl (0, [(1, 1)]))])) (.branch 499 (.leaf (496, 0, 69, .inr 2, [])) (.leaf (500, 0, 2829, .inr 2, []))), zw_2048, [.inr (469, (53, [])), .inr (469, (54, []))], zp_2048.map (fun p => p.1))
def zu_2048 : List zCu := []
def zs_2048 : List zCt := [zc_2021]
theorem za_2048 : zwin zw_2048 zc_2048.2.2.2.2.2.1 = true := by decide +kernel
theorem z0_2048 : zst0 mi_P zw_2048 [] [] (fun d y as t en => zcal zw_2048 d y as t en zs_2048) zc_2048 zp_2048 zu_2048 242 = true := by decide +kernel
theorem zk_2048 : zu_2048.all (zck mi_P zc_2048.2.1 zw_2048 false [] [] (fun d y as t en => zcal zw_2048 d y as t en zs_2048) zc_2048.2.2.2.1.length zc_2048.2.2.2.1 zc_2048.2.2.2.2.2.1 zp_2048 zu_2048 242) = true := by decide +kernel
theorem zt_2048 {S : Nat × (Nat → Int32)} : zCtr mi_P S zTt zc_2048 := by
  have hc : ∀ c ∈ zs_2048, zCtr mi_P S zTt c := by
    intro c hc
    simp only [zs_2048, List.mem_cons, List.not_mem_nil, or_false] at hc
    rcases hc with rfl
    · exact zt_2021
  exact zCtr_of (Om := zTt) (ct := zc_2048) (ps := zp_2048) (fun _ _ _ _ => trivial) rfl hc za_2048 z0_2048 zk_2048
/-- LModel.week()I -/
def zw_2049 : zW := .branch 495 (.leaf (470, [53, 54])) (.branch 499 (.leaf (496, [0])) (.leaf (500, [0])))
def zp_2049 : List (zPo × List (Nat ⊕ (Nat × zL))) := [(([(0, 40), (0, 40)], [((-40), [(2, 1), (3, 1)])], [(469, [((53, []), .inl (0, [(2, 1)])), ((54, []), .inl (0, [(3, 1)]))]), (495, []), (499, [])], some (zaI)), [.inr (469, (53, [])), .inr (469, (54, []))])]
def zc_2049 : zCt := (229, 1, [.inr (.inl 469)], [(0, 40), (0, 40)], [((-40), [(0, 1), (1, 1)])], .branch 495 (.leaf (470, 112, 73, .inr 3, [((40, []), .inr (.inl 495)), ((52, []), .inr (.inl 499)), ((53, []), .inl (0, [(0, 1)])), ((54, []), .inl (0, [(1, 1)]))])) (.branch 499 (.leaf (496, 0, 69, .inr 2, [])) (.leaf (500, 0, 2829, .inr 2, []))), zw_2049, [.inr (469, (53, [])), .inr (469, (54, []))], zp_2049.map (fun p => p.1))
def zu_2049 : List zCu := []
def zs_2049 : List zCt := [zc_2021, zc_2022]
theorem za_2049 : zwin zw_2049 zc_2049.2.2.2.2.2.1 = true := by decide +kernel
theorem z0_2049 : zst0 mi_P zw_2049 [] [] (fun d y as t en => zcal zw_2049 d y as t en zs_2049) zc_2049 zp_2049 zu_2049 230 = true := by decide +kernel
theorem zk_2049 : zu_2049.all (zck mi_P zc_2049.2.1 zw_2049 false [] [] (fun d y as t en => zcal zw_2049 d y as t en zs_2049) zc_2049.2.2.2.1.length zc_2049.2.2.2.1 zc_2049.2.2.2.2.2.1 zp_2049 zu_2049 230) = true := by decide +kernel
theorem zt_2049 {S : Nat × (Nat → Int32)} : zCtr mi_P S zTt zc_2049 := by
  have hc : ∀ c ∈ zs_2049, zCtr mi_P S zTt c := by
    intro c hc
    simp only [zs_2049, List.mem_cons, List.not_mem_nil, or_false] at hc
    rcases hc with rfl | rfl
    · exact zt_2021
    · exact zt_2022
  exact zCtr_of (Om := zTt) (ct := zc_2049) (ps := zp_2049) (fun _ _ _ _ => trivial) rfl hc za_2049 z0_2049 zk_2049
/-- LModel.board(I)I -/
def zw_2064 : zW := .leaf (0, [])
def zp_2064 : List (zPo × List (Nat ⊕ (Nat × zL))) := [(([], [], [], some (zaI)), [])]
def zc_2064 : zCt := (265, 1, [.inr (.inl 469), zaI], [], [], .branch 495 (.leaf (470, 112, 73, .inr 3, [((40, []), .inr (.inl 495))])) (.leaf (496, 0, 69, .inr 2, [])), zw_2064, [], zp_2064.map (fun p => p.1))
def zu_2064 : List zCu := []
def zs_2064 : List zCt := []
theorem za_2064 : zwin zw_2064 zc_2064.2.2.2.2.2.1 = true := by decide +kernel
theorem z0_2064 : zst0 mi_P zw_2064 [] [] (fun d y as t en => zcal zw_2064 d y as t en zs_2064) zc_2064 zp_2064 zu_2064 268 = true := by decide +kernel
theorem zk_2064 : zu_2064.all (zck mi_P zc_2064.2.1 zw_2064 false [] [] (fun d y as t en => zcal zw_2064 d y as t en zs_2064) zc_2064.2.2.2.1.length zc_2064.2.2.2.1 zc_2064.2.2.2.2.2.1 zp_2064 zu_2064 268) = true := by decide +kernel
theorem zt_2064 {S : Nat × (Nat → Int32)} : zCtr mi_P S zTt zc_2064 := by
  have hc : ∀ c ∈ zs_2064, zCtr mi_P S zTt c := fun c hc => by cases hc
  exact zCtr_of (Om := zTt) (ct := zc_2064) (ps := zp_2064) (fun _ _ _ _ => trivial) rfl hc za_2064 z0_2064 zk_2064
/-- LModel.lies(I)I -/
def zw_2065 : zW := .leaf (0, [])
def zp_2065 : List (zPo × List (Nat ⊕ (Nat × zL))) := [(([], [], [], some (zaI)), [])]
def zc_2065 : zCt := (258, 1, [.inr (.inl 469), zaI], [], [], .branch 503 (.leaf (470, 112, 73, .inr 3, [((58, []), .inr (.inl 503)), ((59, []), .inr (.inr (.inr (.inl (0, 5)))))])) (.leaf (504, 0, 5, .inl ((-2147483648), 2147483647), [])), zw_2065, [], zp_2065.map (fun p => p.1))
def zu_2065 : List zCu := []
def zs_2065 : List zCt := []
theorem za_2065 : zwin zw_2065 zc_2065.2.2.2.2.2.1 = true := by decide +kernel
theorem z0_2065 : zst0 mi_P zw_2065 [] [] (fun d y as t en => zcal zw_2065 d y as t en zs_2065) zc_2065 zp_2065 zu_2065 260 = true := by decide +kernel
theorem zk_2065 : zu_2065.all (zck mi_P zc_2065.2.1 zw_2065 false [] [] (fun d y as t en => zcal zw_2065 d y as t en zs_2065) zc_2065.2.2.2.1.length zc_2065.2.2.2.1 zc_2065.2.2.2.2.2.1 zp_2065 zu_2065 260) = true := by decide +kernel
theorem zt_2065 {S : Nat × (Nat → Int32)} : zCtr mi_P S zTt zc_2065 := by
  have hc : ∀ c ∈ zs_2065, zCtr mi_P S zTt c := fun c hc => by cases hc
  exact zCtr_of (Om := zTt) (ct := zc_2065) (ps := zp_2065) (fun _ _ _ _ => trivial) rfl hc za_2065 z0_2065 zk_2065
/-- LModel.count(IIII)I -/
def zw_2066 : zW := .branch 506 (.branch 504 (.leaf (470, [66])) (.branch 505 (.leaf (505, [0])) (.leaf (506, [0])))) (.branch 508 (.branch 507 (.leaf (507, [0])) (.leaf (508, [0]))) (.branch 509 (.leaf (509, [0])) (.leaf (510, [0]))))
def zp_2066 : List (zPo × List (Nat ⊕ (Nat × zL))) := [(([], [], [(469, [((66, []), .inr (.inr (.inr (.inl (0, 30)))))]), (504, []), (505, []), (506, []), (507, []), (508, []), (509, [])], some (.inr (.inr (.inr (.inl ((-1), 29)))))), [])]
def zc_2066 : zCt := (266, 2, [.inr (.inl 469), zaI, zaI, zaI, zaI], [], [], .branch 506 (.branch 504 (.branch 479 (.leaf (470, 112, 73, .inr 3, [((18, []), .inr (.inl 479)), ((34, []), .inr (.inr (.inr (.inl (0, 1))))), ((60, []), .inr (.inl 504)), ((61, []), .inr (.inl 505)), ((62, []), .inr (.inl 506)), ((63, []), .inr (.inl 507)), ((64, []), .inr (.inl 508)), ((65, []), .inr (.inl 509)), ((66, []), .inr (.inr (.inr (.inl (0, 30))))), ((67, []), .inr (.inr (.inr (.inl (0, 100000)))))])) (.leaf (480, 0, 2, .inl (0, 4), []))) (.branch 505 (.leaf (505, 0, 30, .inl ((-2147483648), 2147483647), [])) (.leaf (506, 0, 30, .inl ((-2147483648), 2147483647), [])))) (.branch 508 (.branch 507 (.leaf (507, 0, 30, .inl ((-2147483648), 2147483647), [])) (.leaf (508, 0, 30, .inl ((-2147483648), 2147483647), []))) (.branch 509 (.leaf (509, 0, 30, .inl ((-2147483648), 2147483647), [])) (.leaf (510, 0, 30, .inl ((-2147483648), 2147483647), [])))), zw_2066, [], zp_2066.map (fun p => p.1))
def zu_2066 : List zCu := []
def zs_2066 : List zCt := []
theorem za_2066 : zwin zw_2066 zc_2066.2.2.2.2.2.1 = true := by decide +kernel
theorem z0_2066 : zst0 mi_P zw_2066 [] [] (fun d y as t en => zcal zw_2066 d y as t en zs_2066) zc_2066 zp_2066 zu_2066 504 = true := by decide +kernel
theorem zk_2066 : zu_2066.all (zck mi_P zc_2066.2.1 zw_2066 false [] [] (fun d y as t en => zcal zw_2066 d y as t en zs_2066) zc_2066.2.2.2.1.length zc_2066.2.2.2.1 zc_2066.2.2.2.2.2.1 zp_2066 zu_2066 504) = true := by decide +kernel
theorem zt_2066 {S : Nat × (Nat → Int32)} : zCtr mi_P S zTt zc_2066 := by
  have hc : ∀ c ∈ zs_2066, zCtr mi_P S zTt c := fun c hc => by cases hc
  exact zCtr_of (Om := zTt) (ct := zc_2066) (ps := zp_2066) (fun _ _ _ _ => trivial) rfl hc za_2066 z0_2066 zk_2066
/-- LModel.untell(I)Z -/
def zw_2067 : zW := .leaf (510, [0])
def zp_2067 : List (zPo × List (Nat ⊕ (Nat × zL))) := [(([], [], [(509, [])], some (.inr (.inr (.inr (.inl (0, 1)))))), [])]
def zc_2067 : zCt := (267, 1, [.inr (.inl 469), zaI], [], [], .branch 509 (.leaf (470, 112, 73, .inr 3, [((65, []), .inr (.inl 509)), ((66, []), .inr (.inr (.inr (.inl (0, 30))))), ((67, []), .inr (.inr (.inr (.inl (0, 100000)))))])) (.leaf (510, 0, 30, .inl ((-2147483648), 2147483647), [])), zw_2067, [], zp_2067.map (fun p => p.1))
def zu_2067 : List zCu := []
def zs_2067 : List zCt := []
theorem za_2067 : zwin zw_2067 zc_2067.2.2.2.2.2.1 = true := by decide +kernel
theorem z0_2067 : zst0 mi_P zw_2067 [] [] (fun d y as t en => zcal zw_2067 d y as t en zs_2067) zc_2067 zp_2067 zu_2067 276 = true := by decide +kernel
theorem zk_2067 : zu_2067.all (zck mi_P zc_2067.2.1 zw_2067 false [] [] (fun d y as t en => zcal zw_2067 d y as t en zs_2067) zc_2067.2.2.2.1.length zc_2067.2.2.2.1 zc_2067.2.2.2.2.2.1 zp_2067 zu_2067 276) = true := by decide +kernel
theorem zt_2067 {S : Nat × (Nat → Int32)} : zCtr mi_P S zTt zc_2067 := by
  have hc : ∀ c ∈ zs_2067, zCtr mi_P S zTt c := fun c hc => by cases hc
  exact zCtr_of (Om := zTt) (ct := zc_2067) (ps := zp_2067) (fun _ _ _ _ => trivial) rfl hc za_2067 z0_2067 zk_2067
