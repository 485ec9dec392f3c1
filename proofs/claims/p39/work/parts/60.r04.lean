/-- LModel.firstOf(IZ)I -/
def zw_2029 : zW := .leaf (0, [])
def zp_2029 : List (zPo × List (Nat ⊕ (Nat × zL))) := [(([], [], [], some (.inr (.inr (.inr (.inl ((-1), 11)))))), [])]
def zc_2029 : zCt := (216, 1, [.inr (.inl 466), .inl (1, []), .inl (1, [])], [], [], .branch 485 (.branch 477 (.leaf (467, 112, 73, .inr 3, [((19, []), .inr (.inl 477)), ((27, []), .inr (.inl 485)), ((34, []), .inr (.inr (.inr (.inl (0, 1))))), ((40, []), .inr (.inl 492)), ((41, []), .inr (.inl 493))])) (.leaf (478, 0, 2, .inl (0, 12), []))) (.branch 492 (.leaf (486, 2, 24, .inl (0, 1), [])) (.branch 493 (.leaf (493, 0, 69, .inr 2, [])) (.leaf (494, 0, 12, .inl ((-2147483648), 2147483647), [])))), zw_2029, [], zp_2029.map (fun p => p.1))
def zu_2029 : List zCu := [(([(216, 4, [(4, .inl (0, [(0, 1)])), (3, .inl (0, [(1, 1)])), (0, .inr (.inl 466)), (1, .inl (1, [])), (2, .inl (1, []))], [])], .branch 485 (.branch 477 (.leaf (467, 112, 73, .inr 3, [((19, []), .inr (.inl 477)), ((27, []), .inr (.inl 485)), ((34, []), .inr (.inr (.inr (.inl (0, 1))))), ((40, []), .inr (.inl 492)), ((41, []), .inr (.inl 493))])) (.leaf (478, 0, 2, .inl (0, 12), []))) (.branch 492 (.leaf (486, 2, 24, .inl (0, 1), [])) (.branch 493 (.leaf (493, 0, 69, .inr 2, [])) (.leaf (494, 0, 12, .inl ((-2147483648), 2147483647), [])))), [(0, 12), ((-1), 11)], [], []), [.inl (0, 4), .inl (0, 3)], (12, [(0, (-1))]))]
def zs_2029 : List zCt := []
theorem za_2029 : zwin zw_2029 zc_2029.2.2.2.2.2.1 = true := by decide +kernel
theorem z0_2029 : zst0 mi_P zw_2029 [] [] (fun d y as t en => zcal zw_2029 d y as t en zs_2029) zc_2029 zp_2029 zu_2029 324 = true := by decide +kernel
theorem zk_2029 : zu_2029.all (zck mi_P zc_2029.2.1 zw_2029 false [] [] (fun d y as t en => zcal zw_2029 d y as t en zs_2029) zc_2029.2.2.2.1.length zc_2029.2.2.2.1 zc_2029.2.2.2.2.2.1 zp_2029 zu_2029 324) = true := by decide +kernel
theorem zt_2029 {S : Nat × (Nat → Int32)} : zCtr mi_P S zTt zc_2029 := by
  have hc : ∀ c ∈ zs_2029, zCtr mi_P S zTt c := fun c hc => by cases hc
  exact zCtr_of (Om := zTt) (ct := zc_2029) (ps := zp_2029) (fun _ _ _ _ => trivial) rfl hc za_2029 z0_2029 zk_2029
/-- LModel.firstOf(IZ)I -/
def zw_2030 : zW := .leaf (0, [])
def zp_2030 : List (zPo × List (Nat ⊕ (Nat × zL))) := [(([], [], [], some (.inr (.inr (.inr (.inl ((-1), 11)))))), [])]
def zc_2030 : zCt := (216, 1, [.inr (.inl 466), .inl (2, []), .inl (0, [])], [], [], .branch 485 (.branch 477 (.leaf (467, 112, 73, .inr 3, [((19, []), .inr (.inl 477)), ((27, []), .inr (.inl 485)), ((34, []), .inr (.inr (.inr (.inl (0, 1))))), ((40, []), .inr (.inl 492))])) (.leaf (478, 0, 2, .inl (0, 12), []))) (.branch 492 (.leaf (486, 2, 24, .inl (0, 1), [])) (.leaf (493, 0, 69, .inr 2, []))), zw_2030, [], zp_2030.map (fun p => p.1))
def zu_2030 : List zCu := [(([(216, 4, [(4, .inl (0, [(0, 1)])), (3, .inl (0, [(1, 1)])), (0, .inr (.inl 466)), (1, .inl (2, [])), (2, .inl (0, []))], [])], .branch 485 (.branch 477 (.leaf (467, 112, 73, .inr 3, [((19, []), .inr (.inl 477)), ((27, []), .inr (.inl 485)), ((34, []), .inr (.inr (.inr (.inl (0, 1))))), ((40, []), .inr (.inl 492))])) (.leaf (478, 0, 2, .inl (0, 12), []))) (.branch 492 (.leaf (486, 2, 24, .inl (0, 1), [])) (.leaf (493, 0, 69, .inr 2, []))), [(0, 12), ((-1), 11)], [], []), [.inl (0, 4), .inl (0, 3)], (12, [(0, (-1))]))]
def zs_2030 : List zCt := []
theorem za_2030 : zwin zw_2030 zc_2030.2.2.2.2.2.1 = true := by decide +kernel
theorem z0_2030 : zst0 mi_P zw_2030 [] [] (fun d y as t en => zcal zw_2030 d y as t en zs_2030) zc_2030 zp_2030 zu_2030 330 = true := by decide +kernel
theorem zk_2030 : zu_2030.all (zck mi_P zc_2030.2.1 zw_2030 false [] [] (fun d y as t en => zcal zw_2030 d y as t en zs_2030) zc_2030.2.2.2.1.length zc_2030.2.2.2.1 zc_2030.2.2.2.2.2.1 zp_2030 zu_2030 330) = true := by decide +kernel
theorem zt_2030 {S : Nat × (Nat → Int32)} : zCtr mi_P S zTt zc_2030 := by
  have hc : ∀ c ∈ zs_2030, zCtr mi_P S zTt c := fun c hc => by cases hc
  exact zCtr_of (Om := zTt) (ct := zc_2030) (ps := zp_2030) (fun _ _ _ _ => trivial) rfl hc za_2030 z0_2030 zk_2030
/-- LModel.firstOf(IZ)I -/
def zw_2031 : zW := .leaf (0, [])
def zp_2031 : List (zPo × List (Nat ⊕ (Nat × zL))) := [(([], [], [], some (.inr (.inr (.inr (.inl ((-1), 11)))))), [])]
def zc_2031 : zCt := (216, 1, [.inr (.inl 466), .inl (2, []), .inl (1, [])], [], [], .branch 485 (.branch 477 (.leaf (467, 112, 73, .inr 3, [((19, []), .inr (.inl 477)), ((27, []), .inr (.inl 485)), ((34, []), .inr (.inr (.inr (.inl (0, 1))))), ((40, []), .inr (.inl 492))])) (.leaf (478, 0, 2, .inl (0, 12), []))) (.branch 492 (.leaf (486, 2, 24, .inl (0, 1), [])) (.leaf (493, 0, 69, .inr 2, []))), zw_2031, [], zp_2031.map (fun p => p.1))
def zu_2031 : List zCu := [(([(216, 4, [(4, .inl (0, [(0, 1)])), (3, .inl (0, [(1, 1)])), (0, .inr (.inl 466)), (1, .inl (2, [])), (2, .inl (1, []))], [])], .branch 485 (.branch 477 (.leaf (467, 112, 73, .inr 3, [((19, []), .inr (.inl 477)), ((27, []), .inr (.inl 485)), ((34, []), .inr (.inr (.inr (.inl (0, 1))))), ((40, []), .inr (.inl 492))])) (.leaf (478, 0, 2, .inl (0, 12), []))) (.branch 492 (.leaf (486, 2, 24, .inl (0, 1), [])) (.leaf (493, 0, 69, .inr 2, []))), [(0, 12), ((-1), 11)], [], []), [.inl (0, 4), .inl (0, 3)], (12, [(0, (-1))]))]
def zs_2031 : List zCt := []
theorem za_2031 : zwin zw_2031 zc_2031.2.2.2.2.2.1 = true := by decide +kernel
theorem z0_2031 : zst0 mi_P zw_2031 [] [] (fun d y as t en => zcal zw_2031 d y as t en zs_2031) zc_2031 zp_2031 zu_2031 330 = true := by decide +kernel
theorem zk_2031 : zu_2031.all (zck mi_P zc_2031.2.1 zw_2031 false [] [] (fun d y as t en => zcal zw_2031 d y as t en zs_2031) zc_2031.2.2.2.1.length zc_2031.2.2.2.1 zc_2031.2.2.2.2.2.1 zp_2031 zu_2031 330) = true := by decide +kernel
theorem zt_2031 {S : Nat × (Nat → Int32)} : zCtr mi_P S zTt zc_2031 := by
  have hc : ∀ c ∈ zs_2031, zCtr mi_P S zTt c := fun c hc => by cases hc
  exact zCtr_of (Om := zTt) (ct := zc_2031) (ps := zp_2031) (fun _ _ _ _ => trivial) rfl hc za_2031 z0_2031 zk_2031
/-- LModel.hold(I)V -/
def zw_2032 : zW := .leaf (493, [0])
def zp_2032 : List (zPo × List (Nat ⊕ (Nat × zL))) := [(([], [], [(492, [])], none), [])]
def zc_2032 : zCt := (219, 0, [.inr (.inl 466), .inr (.inr (.inr (.inl (0, 11))))], [], [], .branch 492 (.leaf (467, 112, 73, .inr 3, [((40, []), .inr (.inl 492))])) (.leaf (493, 0, 69, .inr 2, [])), zw_2032, [], zp_2032.map (fun p => p.1))
def zu_2032 : List zCu := [(([(219, 2, [(2, .inl (0, [(1, 1)])), (0, .inr (.inl 466)), (1, .inl (0, [(0, 1)]))], [])], .branch 492 (.leaf (467, 112, 73, .inr 3, [((40, []), .inr (.inl 492))])) (.leaf (493, 0, 69, .inr 2, [])), [(0, 11), (0, 19)], [], []), [.inl (0, 1), .inl (0, 2)], (0, [(1, 1)]))]
def zs_2032 : List zCt := []
theorem za_2032 : zwin zw_2032 zc_2032.2.2.2.2.2.1 = true := by decide +kernel
theorem z0_2032 : zst0 mi_P zw_2032 [] [] (fun d y as t en => zcal zw_2032 d y as t en zs_2032) zc_2032 zp_2032 zu_2032 274 = true := by decide +kernel
theorem zk_2032 : zu_2032.all (zck mi_P zc_2032.2.1 zw_2032 false [] [] (fun d y as t en => zcal zw_2032 d y as t en zs_2032) zc_2032.2.2.2.1.length zc_2032.2.2.2.1 zc_2032.2.2.2.2.2.1 zp_2032 zu_2032 274) = true := by decide +kernel
theorem zt_2032 {S : Nat × (Nat → Int32)} : zCtr mi_P S zTt zc_2032 := by
  have hc : ∀ c ∈ zs_2032, zCtr mi_P S zTt c := fun c hc => by cases hc
  exact zCtr_of (Om := zTt) (ct := zc_2032) (ps := zp_2032) (fun _ _ _ _ => trivial) rfl hc za_2032 z0_2032 zk_2032
/-- LModel.doesPass(II)Z -/
def zw_2033 : zW := .branch 492 (.leaf (467, [49, 50])) (.leaf (493, [0]))
def zp_2033 : List (zPo × List (Nat ⊕ (Nat × zL))) := [(([], [], [(466, [((49, []), zaI), ((50, []), zaI)]), (492, [])], some (.inr (.inr (.inr (.inl (0, 1)))))), [])]
def zc_2033 : zCt := (217, 1, [.inr (.inl 466), .inr (.inr (.inr (.inl (0, 11)))), .inl (0, [])], [], [], .branch 492 (.leaf (467, 112, 73, .inr 3, [((40, []), .inr (.inl 492)), ((43, []), zaI), ((45, []), zaI), ((46, []), .inr (.inr (.inr (.inl (0, 1))))), ((49, []), zaI), ((50, []), zaI)])) (.leaf (493, 0, 69, .inr 2, [])), zw_2033, [], zp_2033.map (fun p => p.1))
def zu_2033 : List zCu := []
def zs_2033 : List zCt := [zc_2027, zc_2032]
theorem za_2033 : zwin zw_2033 zc_2033.2.2.2.2.2.1 = true := by decide +kernel
theorem z0_2033 : zst0 mi_P zw_2033 [] [] (fun d y as t en => zcal zw_2033 d y as t en zs_2033) zc_2033 zp_2033 zu_2033 354 = true := by decide +kernel
theorem zk_2033 : zu_2033.all (zck mi_P zc_2033.2.1 zw_2033 false [] [] (fun d y as t en => zcal zw_2033 d y as t en zs_2033) zc_2033.2.2.2.1.length zc_2033.2.2.2.1 zc_2033.2.2.2.2.2.1 zp_2033 zu_2033 354) = true := by decide +kernel
theorem zt_2033 {S : Nat × (Nat → Int32)} : zCtr mi_P S zTt zc_2033 := by
  have hc : ∀ c ∈ zs_2033, zCtr mi_P S zTt c := by
    intro c hc
    simp only [zs_2033, List.mem_cons, List.not_mem_nil, or_false] at hc
    rcases hc with rfl | rfl
    · exact zt_2027
    · exact zt_2032
  exact zCtr_of (Om := zTt) (ct := zc_2033) (ps := zp_2033) (fun _ _ _ _ => trivial) rfl hc za_2033 z0_2033 zk_2033
/-- LModel.doesPass(II)Z -/
def zw_2034 : zW := .branch 492 (.leaf (467, [49, 50])) (.leaf (493, [0]))
def zp_2034 : List (zPo × List (Nat ⊕ (Nat × zL))) := [(([], [], [(466, [((49, []), zaI), ((50, []), zaI)]), (492, [])], some (.inr (.inr (.inr (.inl (0, 1)))))), [])]
def zc_2034 : zCt := (217, 1, [.inr (.inl 466), .inr (.inr (.inr (.inl (0, 11)))), .inl (1, [])], [], [], .branch 492 (.leaf (467, 112, 73, .inr 3, [((40, []), .inr (.inl 492)), ((44, []), zaI), ((45, []), zaI), ((46, []), .inr (.inr (.inr (.inl (0, 1))))), ((49, []), zaI), ((50, []), zaI)])) (.leaf (493, 0, 69, .inr 2, [])), zw_2034, [], zp_2034.map (fun p => p.1))
def zu_2034 : List zCu := []
def zs_2034 : List zCt := [zc_2027, zc_2032]
theorem za_2034 : zwin zw_2034 zc_2034.2.2.2.2.2.1 = true := by decide +kernel
theorem z0_2034 : zst0 mi_P zw_2034 [] [] (fun d y as t en => zcal zw_2034 d y as t en zs_2034) zc_2034 zp_2034 zu_2034 348 = true := by decide +kernel
theorem zk_2034 : zu_2034.all (zck mi_P zc_2034.2.1 zw_2034 false [] [] (fun d y as t en => zcal zw_2034 d y as t en zs_2034) zc_2034.2.2.2.1.length zc_2034.2.2.2.1 zc_2034.2.2.2.2.2.1 zp_2034 zu_2034 348) = true := by decide +kernel
theorem zt_2034 {S : Nat × (Nat → Int32)} : zCtr mi_P S zTt zc_2034 := by
  have hc : ∀ c ∈ zs_2034, zCtr mi_P S zTt c := by
    intro c hc
    simp only [zs_2034, List.mem_cons, List.not_mem_nil, or_false] at hc
    rcases hc with rfl | rfl
    · exact zt_2027
    · exact zt_2032
  exact zCtr_of (Om := zTt) (ct := zc_2034) (ps := zp_2034) (fun _ _ _ _ => trivial) rfl hc za_2034 z0_2034 zk_2034
/-- LModel.leaves(Z)V -/
def zw_2035 : zW := .branch 492 (.leaf (467, [49, 50])) (.leaf (493, [0]))
def zp_2035 : List (zPo × List (Nat ⊕ (Nat × zL))) := [(([], [], [(466, [((49, []), zaI), ((50, []), zaI)]), (492, [])], none), [])]
def zc_2035 : zCt := (215, 2, [.inr (.inl 466), .inl (0, [])], [], [], .branch 485 (.branch 477 (.leaf (467, 112, 73, .inr 3, [((19, []), .inr (.inl 477)), ((27, []), .inr (.inl 485)), ((34, []), .inr (.inr (.inr (.inl (0, 1))))), ((40, []), .inr (.inl 492)), ((43, []), zaI), ((45, []), zaI), ((46, []), .inr (.inr (.inr (.inl (0, 1))))), ((49, []), zaI), ((50, []), zaI)])) (.leaf (478, 0, 2, .inl (0, 12), []))) (.branch 492 (.leaf (486, 2, 24, .inl (0, 1), [])) (.leaf (493, 0, 69, .inr 2, []))), zw_2035, [], zp_2035.map (fun p => p.1))
def zu_2035 : List zCu := []
def zs_2035 : List zCt := [zc_2030, zc_2033]
theorem za_2035 : zwin zw_2035 zc_2035.2.2.2.2.2.1 = true := by decide +kernel
theorem z0_2035 : zst0 mi_P zw_2035 [] [] (fun d y as t en => zcal zw_2035 d y as t en zs_2035) zc_2035 zp_2035 zu_2035 242 = true := by decide +kernel
theorem zk_2035 : zu_2035.all (zck mi_P zc_2035.2.1 zw_2035 false [] [] (fun d y as t en => zcal zw_2035 d y as t en zs_2035) zc_2035.2.2.2.1.length zc_2035.2.2.2.1 zc_2035.2.2.2.2.2.1 zp_2035 zu_2035 242) = true := by decide +kernel
theorem zt_2035 {S : Nat × (Nat → Int32)} : zCtr mi_P S zTt zc_2035 := by
  have hc : ∀ c ∈ zs_2035, zCtr mi_P S zTt c := by
    intro c hc
    simp only [zs_2035, List.mem_cons, List.not_mem_nil, or_false] at hc
    rcases hc with rfl | rfl
    · exact zt_2030
    · exact zt_2033
  exact zCtr_of (Om := zTt) (ct := zc_2035) (ps := zp_2035) (fun _ _ _ _ => trivial) rfl hc za_2035 z0_2035 zk_2035
/-- LModel.enters(Z)V -/
def zw_2036 : zW := .branch 492 (.leaf (467, [49, 50])) (.leaf (493, [0]))
def zp_2036 : List (zPo × List (Nat ⊕ (Nat × zL))) := [(([], [], [(466, [((49, []), zaI), ((50, []), zaI)]), (492, [])], none), [])]
def zc_2036 : zCt := (220, 2, [.inr (.inl 466), .inl (0, [])], [], [], .branch 485 (.branch 477 (.leaf (467, 112, 73, .inr 3, [((19, []), .inr (.inl 477)), ((23, []), .inr (.inl 481)), ((27, []), .inr (.inl 485)), ((34, []), .inr (.inr (.inr (.inl (0, 1))))), ((40, []), .inr (.inl 492)), ((41, []), .inr (.inl 493)), ((42, []), zaI), ((44, []), zaI), ((45, []), zaI), ((46, []), .inr (.inr (.inr (.inl (0, 1))))), ((49, []), zaI), ((50, []), zaI)])) (.branch 481 (.leaf (478, 0, 2, .inl (0, 12), [])) (.leaf (482, 0, 24, .inl ((-2147483648), 2147483647), [])))) (.branch 492 (.leaf (486, 2, 24, .inl (0, 1), [])) (.branch 493 (.leaf (493, 0, 69, .inr 2, [])) (.leaf (494, 0, 12, .inl ((-2147483648), 2147483647), [])))), zw_2036, [], zp_2036.map (fun p => p.1))
def zu_2036 : List zCu := []
def zs_2036 : List zCt := [zc_2028, zc_2026, zc_2034]
theorem za_2036 : zwin zw_2036 zc_2036.2.2.2.2.2.1 = true := by decide +kernel
theorem z0_2036 : zst0 mi_P zw_2036 [] [] (fun d y as t en => zcal zw_2036 d y as t en zs_2036) zc_2036 zp_2036 zu_2036 300 = true := by decide +kernel
theorem zk_2036 : zu_2036.all (zck mi_P zc_2036.2.1 zw_2036 false [] [] (fun d y as t en => zcal zw_2036 d y as t en zs_2036) zc_2036.2.2.2.1.length zc_2036.2.2.2.1 zc_2036.2.2.2.2.2.1 zp_2036 zu_2036 300) = true := by decide +kernel
theorem zt_2036 {S : Nat × (Nat → Int32)} : zCtr mi_P S zTt zc_2036 := by
  have hc : ∀ c ∈ zs_2036, zCtr mi_P S zTt c := by
    intro c hc
    simp only [zs_2036, List.mem_cons, List.not_mem_nil, or_false] at hc
    rcases hc with rfl | rfl | rfl
    · exact zt_2028
    · exact zt_2026
    · exact zt_2034
  exact zCtr_of (Om := zTt) (ct := zc_2036) (ps := zp_2036) (fun _ _ _ _ => trivial) rfl hc za_2036 z0_2036 zk_2036
/-- LModel.leaves(Z)V -/
def zw_2037 : zW := .branch 492 (.leaf (467, [49, 50])) (.leaf (493, [0]))
def zp_2037 : List (zPo × List (Nat ⊕ (Nat × zL))) := [(([], [], [(466, [((49, []), zaI), ((50, []), zaI)]), (492, [])], none), [])]
def zc_2037 : zCt := (215, 2, [.inr (.inl 466), .inl (1, [])], [], [], .branch 485 (.branch 477 (.leaf (467, 112, 73, .inr 3, [((19, []), .inr (.inl 477)), ((27, []), .inr (.inl 485)), ((34, []), .inr (.inr (.inr (.inl (0, 1))))), ((40, []), .inr (.inl 492)), ((44, []), zaI), ((45, []), zaI), ((46, []), .inr (.inr (.inr (.inl (0, 1))))), ((49, []), zaI), ((50, []), zaI)])) (.leaf (478, 0, 2, .inl (0, 12), []))) (.branch 492 (.leaf (486, 2, 24, .inl (0, 1), [])) (.leaf (493, 0, 69, .inr 2, []))), zw_2037, [], zp_2037.map (fun p => p.1))
def zu_2037 : List zCu := []
def zs_2037 : List zCt := [zc_2031, zc_2034]
theorem za_2037 : zwin zw_2037 zc_2037.2.2.2.2.2.1 = true := by decide +kernel
theorem z0_2037 : zst0 mi_P zw_2037 [] [] (fun d y as t en => zcal zw_2037 d y as t en zs_2037) zc_2037 zp_2037 zu_2037 244 = true := by decide +kernel
theorem zk_2037 : zu_2037.all (zck mi_P zc_2037.2.1 zw_2037 false [] [] (fun d y as t en => zcal zw_2037 d y as t en zs_2037) zc_2037.2.2.2.1.length zc_2037.2.2.2.1 zc_2037.2.2.2.2.2.1 zp_2037 zu_2037 244) = true := by decide +kernel
theorem zt_2037 {S : Nat × (Nat → Int32)} : zCtr mi_P S zTt zc_2037 := by
  have hc : ∀ c ∈ zs_2037, zCtr mi_P S zTt c := by
    intro c hc
    simp only [zs_2037, List.mem_cons, List.not_mem_nil, or_false] at hc
    rcases hc with rfl | rfl
    · exact zt_2031
    · exact zt_2034
  exact zCtr_of (Om := zTt) (ct := zc_2037) (ps := zp_2037) (fun _ _ _ _ => trivial) rfl hc za_2037 z0_2037 zk_2037
/-- LModel.enters(Z)V -/
def zw_2038 : zW := .branch 492 (.leaf (467, [49, 50])) (.leaf (493, [0]))
def zp_2038 : List (zPo × List (Nat ⊕ (Nat × zL))) := [(([], [], [(466, [((49, []), zaI), ((50, []), zaI)]), (492, [])], none), [])]
def zc_2038 : zCt := (220, 2, [.inr (.inl 466), .inl (1, [])], [], [], .branch 485 (.branch 477 (.leaf (467, 112, 73, .inr 3, [((19, []), .inr (.inl 477)), ((23, []), .inr (.inl 481)), ((27, []), .inr (.inl 485)), ((34, []), .inr (.inr (.inr (.inl (0, 1))))), ((40, []), .inr (.inl 492)), ((41, []), .inr (.inl 493)), ((42, []), zaI), ((43, []), zaI), ((45, []), zaI), ((46, []), .inr (.inr (.inr (.inl (0, 1))))), ((49, []), zaI), ((50, []), zaI)])) (.branch 481 (.leaf (478, 0, 2, .inl (0, 12), [])) (.leaf (482, 0, 24, .inl ((-2147483648), 2147483647), [])))) (.branch 492 (.leaf (486, 2, 24, .inl (0, 1), [])) (.branch 493 (.leaf (493, 0, 69, .inr 2, [])) (.leaf (494, 0, 12, .inl ((-2147483648), 2147483647), [])))), zw_2038, [], zp_2038.map (fun p => p.1))
def zu_2038 : List zCu := []
def zs_2038 : List zCt := [zc_2029, zc_2026, zc_2033]
theorem za_2038 : zwin zw_2038 zc_2038.2.2.2.2.2.1 = true := by decide +kernel
theorem z0_2038 : zst0 mi_P zw_2038 [] [] (fun d y as t en => zcal zw_2038 d y as t en zs_2038) zc_2038 zp_2038 zu_2038 302 = true := by decide +kernel
theorem zk_2038 : zu_2038.all (zck mi_P zc_2038.2.1 zw_2038 false [] [] (fun d y as t en => zcal zw_2038 d y as t en zs_2038) zc_2038.2.2.2.1.length zc_2038.2.2.2.1 zc_2038.2.2.2.2.2.1 zp_2038 zu_2038 302) = true := by decide +kernel
theorem zt_2038 {S : Nat × (Nat → Int32)} : zCtr mi_P S zTt zc_2038 := by
  have hc : ∀ c ∈ zs_2038, zCtr mi_P S zTt c := by
    intro c hc
    simp only [zs_2038, List.mem_cons, List.not_mem_nil, or_false] at hc
    rcases hc with rfl | rfl | rfl
    · exact zt_2029
    · exact zt_2026
    · exact zt_2033
  exact zCtr_of (Om := zTt) (ct := zc_2038) (ps := zp_2038) (fun _ _ _ _ => trivial) rfl hc za_2038 z0_2038 zk_2038
/-- LModel.parted(II)I -/
def zw_2039 : zW := .leaf (493, [0])
def zp_2039 : List (zPo × List (Nat ⊕ (Nat × zL))) := [(([], [], [(492, [])], some (zaI)), [])]
def zc_2039 : zCt := (224, 1, [.inr (.inl 466), zaI, zaI], [], [], .branch 492 (.leaf (467, 112, 73, .inr 3, [((40, []), .inr (.inl 492))])) (.leaf (493, 0, 69, .inr 2, [])), zw_2039, [], zp_2039.map (fun p => p.1))
def zu_2039 : List zCu := []
def zs_2039 : List zCt := [zc_2027]
theorem za_2039 : zwin zw_2039 zc_2039.2.2.2.2.2.1 = true := by decide +kernel
theorem z0_2039 : zst0 mi_P zw_2039 [] [] (fun d y as t en => zcal zw_2039 d y as t en zs_2039) zc_2039 zp_2039 zu_2039 230 = true := by decide +kernel
theorem zk_2039 : zu_2039.all (zck mi_P zc_2039.2.1 zw_2039 false [] [] (fun d y as t en => zcal zw_2039 d y as t en zs_2039) zc_2039.2.2.2.1.length zc_2039.2.2.2.1 zc_2039.2.2.2.2.2.1 zp_2039 zu_2039 230) = true := by decide +kernel
theorem zt_2039 {S : Nat × (Nat → Int32)} : zCtr mi_P S zTt zc_2039 := by
  have hc : ∀ c ∈ zs_2039, zCtr mi_P S zTt c := by
    intro c hc
    simp only [zs_2039, List.mem_cons, List.not_mem_nil, or_false] at hc
    rcases hc with rfl
    · exact zt_2027
  exact zCtr_of (Om := zTt) (ct := zc_2039) (ps := zp_2039) (fun _ _ _ _ => trivial) rfl hc za_2039 z0_2039 zk_2039
/-- LModel.line(I)I -/
def zw_2041 : zW := .leaf (0, [])
def zp_2041 : List (zPo × List (Nat ⊕ (Nat × zL))) := [(([], [], [], some (zaI)), [])]
def zc_2041 : zCt := (211, 1, [.inr (.inl 466), .inl (0, [])], [], [], .branch 485 (.branch 477 (.leaf (467, 112, 73, .inr 3, [((19, []), .inr (.inl 477)), ((27, []), .inr (.inl 485)), ((34, []), .inr (.inr (.inr (.inl (0, 1))))), ((40, []), .inr (.inl 492))])) (.leaf (478, 0, 2, .inl (0, 12), []))) (.branch 492 (.leaf (486, 2, 24, .inl (0, 1), [])) (.leaf (493, 0, 69, .inr 2, []))), zw_2041, [], zp_2041.map (fun p => p.1))
def zu_2041 : List zCu := [(([(211, 11, [(3, .inl (0, [(0, 1)])), (2, .inl (0, [(1, 1)])), (0, .inr (.inl 466)), (1, .inl (0, []))], [])], .branch 485 (.branch 477 (.leaf (467, 112, 73, .inr 3, [((19, []), .inr (.inl 477)), ((27, []), .inr (.inl 485)), ((34, []), .inr (.inr (.inr (.inl (0, 1))))), ((40, []), .inr (.inl 492))])) (.leaf (478, 0, 2, .inl (0, 12), []))) (.branch 492 (.leaf (486, 2, 24, .inl (0, 1), [])) (.leaf (493, 0, 69, .inr 2, []))), [(0, 12), ((-2147483648), 2147483647)], [], []), [.inl (0, 3), .inl (0, 2)], (12, [(0, (-1))]))]
def zs_2041 : List zCt := []
theorem za_2041 : zwin zw_2041 zc_2041.2.2.2.2.2.1 = true := by decide +kernel
theorem z0_2041 : zst0 mi_P zw_2041 [] [] (fun d y as t en => zcal zw_2041 d y as t en zs_2041) zc_2041 zp_2041 zu_2041 338 = true := by decide +kernel
theorem zk_2041 : zu_2041.all (zck mi_P zc_2041.2.1 zw_2041 false [] [] (fun d y as t en => zcal zw_2041 d y as t en zs_2041) zc_2041.2.2.2.1.length zc_2041.2.2.2.1 zc_2041.2.2.2.2.2.1 zp_2041 zu_2041 338) = true := by decide +kernel
theorem zt_2041 {S : Nat × (Nat → Int32)} : zCtr mi_P S zTt zc_2041 := by
  have hc : ∀ c ∈ zs_2041, zCtr mi_P S zTt c := fun c hc => by cases hc
  exact zCtr_of (Om := zTt) (ct := zc_2041) (ps := zp_2041) (fun _ _ _ _ => trivial) rfl hc za_2041 z0_2041 zk_2041
/-- LModel.line(I)I -/
def zw_2042 : zW := .leaf (0, [])
def zp_2042 : List (zPo × List (Nat ⊕ (Nat × zL))) := [(([], [], [], some (zaI)), [])]
def zc_2042 : zCt := (211, 1, [.inr (.inl 466), .inl (1, [])], [], [], .branch 485 (.branch 477 (.leaf (467, 112, 73, .inr 3, [((19, []), .inr (.inl 477)), ((27, []), .inr (.inl 485)), ((34, []), .inr (.inr (.inr (.inl (0, 1))))), ((40, []), .inr (.inl 492))])) (.leaf (478, 0, 2, .inl (0, 12), []))) (.branch 492 (.leaf (486, 2, 24, .inl (0, 1), [])) (.leaf (493, 0, 69, .inr 2, []))), zw_2042, [], zp_2042.map (fun p => p.1))
def zu_2042 : List zCu := [(([(211, 11, [(3, .inl (0, [(0, 1)])), (2, .inl (0, [(1, 1)])), (0, .inr (.inl 466)), (1, .inl (1, []))], [])], .branch 485 (.branch 477 (.leaf (467, 112, 73, .inr 3, [((19, []), .inr (.inl 477)), ((27, []), .inr (.inl 485)), ((34, []), .inr (.inr (.inr (.inl (0, 1))))), ((40, []), .inr (.inl 492))])) (.leaf (478, 0, 2, .inl (0, 12), []))) (.branch 492 (.leaf (486, 2, 24, .inl (0, 1), [])) (.leaf (493, 0, 69, .inr 2, []))), [(0, 12), ((-2147483648), 2147483647)], [], []), [.inl (0, 3), .inl (0, 2)], (12, [(0, (-1))]))]
def zs_2042 : List zCt := []
theorem za_2042 : zwin zw_2042 zc_2042.2.2.2.2.2.1 = true := by decide +kernel
theorem z0_2042 : zst0 mi_P zw_2042 [] [] (fun d y as t en => zcal zw_2042 d y as t en zs_2042) zc_2042 zp_2042 zu_2042 336 = true := by decide +kernel
theorem zk_2042 : zu_2042.all (zck mi_P zc_2042.2.1 zw_2042 false [] [] (fun d y as t en => zcal zw_2042 d y as t en zs_2042) zc_2042.2.2.2.1.length zc_2042.2.2.2.1 zc_2042.2.2.2.2.2.1 zp_2042 zu_2042 336) = true := by decide +kernel
theorem zt_2042 {S : Nat × (Nat → Int32)} : zCtr mi_P S zTt zc_2042 := by
  have hc : ∀ c ∈ zs_2042, zCtr mi_P S zTt c := fun c hc => by cases hc
  exact zCtr_of (Om := zTt) (ct := zc_2042) (ps := zp_2042) (fun _ _ _ _ => trivial) rfl hc za_2042 z0_2042 zk_2042
/-- LModel.line(I)I -/
def zw_2043 : zW := .leaf (0, [])
def zp_2043 : List (zPo × List (Nat ⊕ (Nat × zL))) := [(([], [], [], some (zaI)), [])]
def zc_2043 : zCt := (211, 1, [.inr (.inl 466), .inl (2, [])], [], [], .branch 477 (.leaf (467, 112, 73, .inr 3, [((19, []), .inr (.inl 477)), ((34, []), .inr (.inr (.inr (.inl (0, 1))))), ((40, []), .inr (.inl 492))])) (.branch 492 (.leaf (478, 0, 2, .inl (0, 12), [])) (.leaf (493, 0, 69, .inr 2, []))), zw_2043, [], zp_2043.map (fun p => p.1))
def zu_2043 : List zCu := [(([(211, 11, [(3, .inl (0, [(0, 1)])), (2, .inl (0, [(1, 1)])), (0, .inr (.inl 466)), (1, .inl (2, []))], [])], .branch 477 (.leaf (467, 112, 73, .inr 3, [((19, []), .inr (.inl 477)), ((34, []), .inr (.inr (.inr (.inl (0, 1))))), ((40, []), .inr (.inl 492))])) (.branch 492 (.leaf (478, 0, 2, .inl (0, 12), [])) (.leaf (493, 0, 69, .inr 2, []))), [(0, 12), ((-2147483648), 2147483647)], [], []), [.inl (0, 3), .inl (0, 2)], (12, [(0, (-1))]))]
def zs_2043 : List zCt := []
theorem za_2043 : zwin zw_2043 zc_2043.2.2.2.2.2.1 = true := by decide +kernel
theorem z0_2043 : zst0 mi_P zw_2043 [] [] (fun d y as t en => zcal zw_2043 d y as t en zs_2043) zc_2043 zp_2043 zu_2043 284 = true := by decide +kernel
theorem zk_2043 : zu_2043.all (zck mi_P zc_2043.2.1 zw_2043 false [] [] (fun d y as t en => zcal zw_2043 d y as t en zs_2043) zc_2043.2.2.2.1.length zc_2043.2.2.2.1 zc_2043.2.2.2.2.2.1 zp_2043 zu_2043 284) = true := by decide +kernel
theorem zt_2043 {S : Nat × (Nat → Int32)} : zCtr mi_P S zTt zc_2043 := by
  have hc : ∀ c ∈ zs_2043, zCtr mi_P S zTt c := fun c hc => by cases hc
  exact zCtr_of (Om := zTt) (ct := zc_2043) (ps := zp_2043) (fun _ _ _ _ => trivial) rfl hc za_2043 z0_2043 zk_2043
/-- LModel.notePeaks()V -/
def zw_2044 : zW := .branch 494 (.leaf (467, [51])) (.branch 495 (.leaf (495, [0])) (.leaf (496, [0])))
def zp_2044 : List (zPo × List (Nat ⊕ (Nat × zL))) := [(([], [], [(466, [((51, []), zaI)]), (494, []), (495, [])], none), [])]
def zc_2044 : zCt := (222, 2, [.inr (.inl 466)], [], [], .branch 485 (.branch 477 (.leaf (467, 112, 73, .inr 3, [((19, []), .inr (.inl 477)), ((22, []), .inr (.inl 480)), ((27, []), .inr (.inl 485)), ((34, []), .inr (.inr (.inr (.inl (0, 1))))), ((40, []), .inr (.inl 492)), ((47, []), .inr (.inl 494)), ((48, []), .inr (.inl 495)), ((51, []), zaI)])) (.branch 480 (.leaf (478, 0, 2, .inl (0, 12), [])) (.leaf (481, 0, 24, .inl ((-2147483648), 2147483647), [])))) (.branch 494 (.branch 492 (.leaf (486, 2, 24, .inl (0, 1), [])) (.leaf (493, 0, 69, .inr 2, []))) (.branch 495 (.leaf (495, 0, 3, .inl ((-2147483648), 2147483647), [])) (.leaf (496, 0, 2, .inl ((-2147483648), 2147483647), [])))), zw_2044, [], zp_2044.map (fun p => p.1))
def zu_2044 : List zCu := [(([(222, 2, [(1, .inl (0, [(0, 1)])), (0, .inr (.inl 466))], [])], .branch 485 (.branch 477 (.leaf (467, 112, 73, .inr 3, [((19, []), .inr (.inl 477)), ((22, []), .inr (.inl 480)), ((27, []), .inr (.inl 485)), ((34, []), .inr (.inr (.inr (.inl (0, 1))))), ((40, []), .inr (.inl 492)), ((47, []), .inr (.inl 494)), ((48, []), .inr (.inl 495)), ((51, []), zaI)])) (.branch 480 (.leaf (478, 0, 2, .inl (0, 12), [])) (.leaf (481, 0, 24, .inl ((-2147483648), 2147483647), [])))) (.branch 494 (.branch 492 (.leaf (486, 2, 24, .inl (0, 1), [])) (.leaf (493, 0, 69, .inr 2, []))) (.branch 495 (.leaf (495, 0, 3, .inl ((-2147483648), 2147483647), [])) (.leaf (496, 0, 2, .inl ((-2147483648), 2147483647), [])))), [(0, 3)], [], []), [.inl (0, 1)], (195, [(0, (-26))])), (([(211, 11, [(3, .inl (0, [(1, 1)])), (2, .inl (0, [(2, 1)])), (0, .inr (.inl 466)), (1, .inl (0, [(0, 1)]))], []), (222, 11, [(1, .inl (0, [(0, 1)])), (0, .inr (.inl 466))], [])], .branch 485 (.branch 477 (.leaf (467, 112, 73, .inr 3, [((19, []), .inr (.inl 477)), ((22, []), .inr (.inl 480)), ((27, []), .inr (.inl 485)), ((34, []), .inr (.inr (.inr (.inl (0, 1))))), ((40, []), .inr (.inl 492)), ((47, []), .inr (.inl 494)), ((48, []), .inr (.inl 495)), ((51, []), zaI)])) (.branch 480 (.leaf (478, 0, 2, .inl (0, 12), [])) (.leaf (481, 0, 24, .inl ((-2147483648), 2147483647), [])))) (.branch 494 (.branch 492 (.leaf (486, 2, 24, .inl (0, 1), [])) (.leaf (493, 0, 69, .inr 2, []))) (.branch 495 (.leaf (495, 0, 3, .inl ((-2147483648), 2147483647), [])) (.leaf (496, 0, 2, .inl ((-2147483648), 2147483647), [])))), [(0, 1), (0, 12), ((-2147483648), 2147483647)], [], []), [.inl (0, 1), .inl (0, 3), .inl (0, 2)], (194, [(0, (-26)), (1, (-1))])), (([(222, 30, [(1, .inl (0, [(0, 1)])), (0, .inr (.inl 466))], [])], .branch 485 (.branch 477 (.leaf (467, 112, 73, .inr 3, [((19, []), .inr (.inl 477)), ((22, []), .inr (.inl 480)), ((27, []), .inr (.inl 485)), ((34, []), .inr (.inr (.inr (.inl (0, 1))))), ((40, []), .inr (.inl 492)), ((47, []), .inr (.inl 494)), ((48, []), .inr (.inl 495)), ((51, []), zaI)])) (.branch 480 (.leaf (478, 0, 2, .inl (0, 12), [])) (.leaf (481, 0, 24, .inl ((-2147483648), 2147483647), [])))) (.branch 494 (.branch 492 (.leaf (486, 2, 24, .inl (0, 1), [])) (.leaf (493, 0, 69, .inr 2, []))) (.branch 495 (.leaf (495, 0, 3, .inl ((-2147483648), 2147483647), [])) (.leaf (496, 0, 2, .inl ((-2147483648), 2147483647), [])))), [(0, 2)], [], []), [.inl (0, 1)], (52, [(0, (-26))]))]
def zs_2044 : List zCt := [zc_2025, zc_2031, zc_2030]
theorem za_2044 : zwin zw_2044 zc_2044.2.2.2.2.2.1 = true := by decide +kernel
theorem z0_2044 : zst0 mi_P zw_2044 [] [] (fun d y as t en => zcal zw_2044 d y as t en zs_2044) zc_2044 zp_2044 zu_2044 422 = true := by decide +kernel
theorem zk_2044 : zu_2044.all (zck mi_P zc_2044.2.1 zw_2044 false [] [] (fun d y as t en => zcal zw_2044 d y as t en zs_2044) zc_2044.2.2.2.1.length zc_2044.2.2.2.1 zc_2044.2.2.2.2.2.1 zp_2044 zu_2044 422) = true := by decide +kernel
theorem zt_2044 {S : Nat × (Nat → Int32)} : zCtr mi_P S zTt zc_2044 := by
  have hc : ∀ c ∈ zs_2044, zCtr mi_P S zTt c := by
    intro c hc
    simp only [zs_2044, List.mem_cons, List.not_mem_nil, or_false] at hc
    rcases hc with rfl | rfl | rfl
    · exact zt_2025
    · exact zt_2031
    · exact zt_2030
  exact zCtr_of (Om := zTt) (ct := zc_2044) (ps := zp_2044) (fun _ _ _ _ => trivial) rfl hc za_2044 z0_2044 zk_2044
/-- LModel.keepAct()V -/
def zw_2046 : zW := .branch 496 (.leaf (467, [53, 54])) (.leaf (497, [0]))
def zp_2046 : List (zPo × List (Nat ⊕ (Nat × zL))) := [(([], [], [(466, [((53, []), .inr (.inr (.inr (.inl (0, 40))))), ((54, []), .inr (.inr (.inr (.inl (0, 40)))))]), (496, [])], none), [])]
def zc_2046 : zCt := (213, 0, [.inr (.inl 466)], [], [], .branch 492 (.leaf (467, 112, 73, .inr 3, [((40, []), .inr (.inl 492)), ((52, []), .inr (.inl 496)), ((53, []), .inr (.inr (.inr (.inl (0, 40))))), ((54, []), .inr (.inr (.inr (.inl (0, 40)))))])) (.branch 496 (.leaf (493, 0, 69, .inr 2, [])) (.leaf (497, 0, 2829, .inr 2, []))), zw_2046, [], zp_2046.map (fun p => p.1))
def zu_2046 : List zCu := [(([(213, 6, [(1, .inl (0, [(0, 1)])), (0, .inr (.inl 466))], [])], .branch 492 (.leaf (467, 112, 73, .inr 3, [((40, []), .inr (.inl 492)), ((52, []), .inr (.inl 496)), ((54, []), .inr (.inr (.inr (.inl (0, 40))))), ((53, []), .inr (.inr (.inr (.inl (40, 40)))))])) (.branch 496 (.leaf (493, 0, 69, .inr 2, [])) (.leaf (497, 0, 2829, .inr 2, []))), [(0, 3072)], [], []), [.inl (0, 1)], (6145, [(0, (-1))])), (([(213, 29, [(1, .inl (0, [(0, 1)])), (0, .inr (.inl 466))], [])], .branch 492 (.leaf (467, 112, 73, .inr 3, [((40, []), .inr (.inl 492)), ((52, []), .inr (.inl 496)), ((54, []), .inr (.inr (.inr (.inl (0, 40))))), ((53, []), .inr (.inr (.inr (.inl (0, 39)))))])) (.branch 496 (.leaf (493, 0, 69, .inr 2, [])) (.leaf (497, 0, 2829, .inr 2, []))), [(0, 69)], [], []), [.inl (0, 1)], (69, [(0, (-1))]))]
def zs_2046 : List zCt := []
theorem za_2046 : zwin zw_2046 zc_2046.2.2.2.2.2.1 = true := by decide +kernel
theorem z0_2046 : zst0 mi_P zw_2046 [] [] (fun d y as t en => zcal zw_2046 d y as t en zs_2046) zc_2046 zp_2046 zu_2046 254 = true := by decide +kernel
theorem zk_2046 : zu_2046.all (zck mi_P zc_2046.2.1 zw_2046 false [] [] (fun d y as t en => zcal zw_2046 d y as t en zs_2046) zc_2046.2.2.2.1.length zc_2046.2.2.2.1 zc_2046.2.2.2.2.2.1 zp_2046 zu_2046 254) = true := by decide +kernel
theorem zt_2046 {S : Nat × (Nat → Int32)} : zCtr mi_P S zTt zc_2046 := by
  have hc : ∀ c ∈ zs_2046, zCtr mi_P S zTt c := fun c hc => by cases hc
  exact zCtr_of (Om := zTt) (ct := zc_2046) (ps := zp_2046) (fun _ _ _ _ => trivial) rfl hc za_2046 z0_2046 zk_2046
/-- LModel.goWeek()V -/
def zw_2047 : zW := .leaf (493, [0])
def zp_2047 : List (zPo × List (Nat ⊕ (Nat × zL))) := [(([], [], [(492, [])], none), [])]
def zc_2047 : zCt := (230, 0, [.inr (.inl 466)], [], [], .branch 492 (.leaf (467, 112, 73, .inr 3, [((40, []), .inr (.inl 492))])) (.leaf (493, 0, 69, .inr 2, [])), zw_2047, [], zp_2047.map (fun p => p.1))
def zu_2047 : List zCu := [(([(230, 25, [(1, .inl (0, [(0, 1)])), (0, .inr (.inl 466))], [])], .branch 492 (.leaf (467, 112, 73, .inr 3, [((40, []), .inr (.inl 492))])) (.leaf (493, 0, 69, .inr 2, [((44, []), .inl (0, [])), ((40, []), .inl (0, [])), ((41, []), .inl (0, []))])), [(0, 12)], [], []), [.inl (0, 1)], (12, [(0, (-1))]))]
def zs_2047 : List zCt := []
theorem za_2047 : zwin zw_2047 zc_2047.2.2.2.2.2.1 = true := by decide +kernel
theorem z0_2047 : zst0 mi_P zw_2047 [] [] (fun d y as t en => zcal zw_2047 d y as t en zs_2047) zc_2047 zp_2047 zu_2047 250 = true := by decide +kernel
theorem zk_2047 : zu_2047.all (zck mi_P zc_2047.2.1 zw_2047 false [] [] (fun d y as t en => zcal zw_2047 d y as t en zs_2047) zc_2047.2.2.2.1.length zc_2047.2.2.2.1 zc_2047.2.2.2.2.2.1 zp_2047 zu_2047 250) = true := by decide +kernel
theorem zt_2047 {S : Nat × (Nat → Int32)} : zCtr mi_P S zTt zc_2047 := by
  have hc : ∀ c ∈ zs_2047, zCtr mi_P S zTt c := fun c hc => by cases hc
  exact zCtr_of (Om := zTt) (ct := zc_2047) (ps := zp_2047) (fun _ _ _ _ => trivial) rfl hc za_2047 z0_2047 zk_2047
/-- LModel.keepNow()V -/
def zw_2048 : zW := .leaf (498, [0])
def zp_2048 : List (zPo × List (Nat ⊕ (Nat × zL))) := [(([], [], [(497, [])], none), [])]
def zc_2048 : zCt := (235, 0, [.inr (.inl 466)], [], [], .branch 492 (.leaf (467, 112, 73, .inr 3, [((40, []), .inr (.inl 492)), ((55, []), .inr (.inl 497))])) (.branch 497 (.leaf (493, 0, 69, .inr 2, [])) (.leaf (498, 0, 69, .inr 2, []))), zw_2048, [], zp_2048.map (fun p => p.1))
def zu_2048 : List zCu := [(([(235, 2, [(1, .inl (0, [(0, 1)])), (0, .inr (.inl 466))], [])], .branch 492 (.leaf (467, 112, 73, .inr 3, [((40, []), .inr (.inl 492)), ((55, []), .inr (.inl 497))])) (.branch 497 (.leaf (493, 0, 69, .inr 2, [])) (.leaf (498, 0, 69, .inr 2, []))), [(0, 69)], [], []), [.inl (0, 1)], (69, [(0, (-1))]))]
def zs_2048 : List zCt := []
theorem za_2048 : zwin zw_2048 zc_2048.2.2.2.2.2.1 = true := by decide +kernel
theorem z0_2048 : zst0 mi_P zw_2048 [] [] (fun d y as t en => zcal zw_2048 d y as t en zs_2048) zc_2048 zp_2048 zu_2048 226 = true := by decide +kernel
theorem zk_2048 : zu_2048.all (zck mi_P zc_2048.2.1 zw_2048 false [] [] (fun d y as t en => zcal zw_2048 d y as t en zs_2048) zc_2048.2.2.2.1.length zc_2048.2.2.2.1 zc_2048.2.2.2.2.2.1 zp_2048 zu_2048 226) = true := by decide +kernel
theorem zt_2048 {S : Nat × (Nat → Int32)} : zCtr mi_P S zTt zc_2048 := by
  have hc : ∀ c ∈ zs_2048, zCtr mi_P S zTt c := fun c hc => by cases hc
  exact zCtr_of (Om := zTt) (ct := zc_2048) (ps := zp_2048) (fun _ _ _ _ => trivial) rfl hc za_2048 z0_2048 zk_2048
/-- LModel.bringBack()V -/
def zw_2049 : zW := .branch 492 (.leaf (467, [42, 43, 44, 45, 46])) (.branch 493 (.leaf (493, [0])) (.leaf (494, [0])))
def zp_2049 : List (zPo × List (Nat ⊕ (Nat × zL))) := [(([], [], [(466, [((42, []), zaI), ((43, []), zaI), ((44, []), zaI), ((45, []), zaI), ((46, []), .inr (.inr (.inr (.inl (0, 1)))))]), (492, []), (493, [])], none), [])]
def zc_2049 : zCt := (243, 2, [.inr (.inl 466)], [], [], .branch 473 (.branch 470 (.branch 469 (.leaf (467, 112, 73, .inr 3, [((11, []), .inr (.inl 469)), ((12, []), .inr (.inl 470)), ((13, []), .inr (.inl 471)), ((14, []), .inr (.inl 472)), ((15, []), .inr (.inl 473)), ((24, []), .inr (.inl 482)), ((34, []), .inr (.inr (.inr (.inl (0, 1))))), ((40, []), .inr (.inl 492)), ((41, []), .inr (.inl 493)), ((42, []), zaI), ((43, []), zaI), ((44, []), zaI), ((45, []), zaI), ((46, []), .inr (.inr (.inr (.inl (0, 1))))), ((55, []), .inr (.inl 497))])) (.leaf (470, 0, 2, .inl ((-2147483648), 2147483647), []))) (.branch 471 (.leaf (471, 0, 2, .inl ((-2147483648), 2147483647), [])) (.branch 472 (.leaf (472, 0, 2, .inl ((-2147483648), 2147483647), [])) (.leaf (473, 0, 2, .inl ((-2147483648), 2147483647), []))))) (.branch 492 (.branch 482 (.leaf (474, 0, 2, .inl ((-2147483648), 2147483647), [])) (.leaf (483, 0, 24, .inl ((-2147483648), 2147483647), []))) (.branch 493 (.leaf (493, 0, 69, .inr 2, [])) (.branch 497 (.leaf (494, 0, 12, .inl ((-2147483648), 2147483647), [])) (.leaf (498, 0, 69, .inr 2, []))))), zw_2049, [], zp_2049.map (fun p => p.1))
def zu_2049 : List zCu := [(([(243, 2, [(1, .inl (0, [(0, 1)])), (0, .inr (.inl 466))], [])], .branch 473 (.branch 470 (.branch 469 (.leaf (467, 112, 73, .inr 3, [((11, []), .inr (.inl 469)), ((12, []), .inr (.inl 470)), ((13, []), .inr (.inl 471)), ((14, []), .inr (.inl 472)), ((15, []), .inr (.inl 473)), ((24, []), .inr (.inl 482)), ((34, []), .inr (.inr (.inr (.inl (0, 1))))), ((40, []), .inr (.inl 492)), ((41, []), .inr (.inl 493)), ((42, []), zaI), ((43, []), zaI), ((44, []), zaI), ((45, []), zaI), ((46, []), .inr (.inr (.inr (.inl (0, 1))))), ((55, []), .inr (.inl 497))])) (.leaf (470, 0, 2, .inl ((-2147483648), 2147483647), []))) (.branch 471 (.leaf (471, 0, 2, .inl ((-2147483648), 2147483647), [])) (.branch 472 (.leaf (472, 0, 2, .inl ((-2147483648), 2147483647), [])) (.leaf (473, 0, 2, .inl ((-2147483648), 2147483647), []))))) (.branch 492 (.branch 482 (.leaf (474, 0, 2, .inl ((-2147483648), 2147483647), [])) (.leaf (483, 0, 24, .inl ((-2147483648), 2147483647), []))) (.branch 493 (.leaf (493, 0, 69, .inr 2, [])) (.branch 497 (.leaf (494, 0, 12, .inl ((-2147483648), 2147483647), [])) (.leaf (498, 0, 69, .inr 2, []))))), [(0, 69)], [], []), [.inl (0, 1)], (69, [(0, (-1))]))]
def zs_2049 : List zCt := [zc_2022]
theorem za_2049 : zwin zw_2049 zc_2049.2.2.2.2.2.1 = true := by decide +kernel
theorem z0_2049 : zst0 mi_P zw_2049 [] [] (fun d y as t en => zcal zw_2049 d y as t en zs_2049) zc_2049 zp_2049 zu_2049 230 = true := by decide +kernel
theorem zk_2049 : zu_2049.all (zck mi_P zc_2049.2.1 zw_2049 false [] [] (fun d y as t en => zcal zw_2049 d y as t en zs_2049) zc_2049.2.2.2.1.length zc_2049.2.2.2.1 zc_2049.2.2.2.2.2.1 zp_2049 zu_2049 230) = true := by decide +kernel
theorem zt_2049 {S : Nat × (Nat → Int32)} : zCtr mi_P S zTt zc_2049 := by
  have hc : ∀ c ∈ zs_2049, zCtr mi_P S zTt c := by
    intro c hc
    simp only [zs_2049, List.mem_cons, List.not_mem_nil, or_false] at hc
    rcases hc with rfl
    · exact zt_2022
  exact zCtr_of (Om := zTt) (ct := zc_2049) (ps := zp_2049) (fun _ _ _ _ => trivial) rfl hc za_2049 z0_2049 zk_2049
/-- LModel.areThrough()Z -/
def zw_2050 : zW := .leaf (0, [])
def zp_2050 : List (zPo × List (Nat ⊕ (Nat × zL))) := [(([], [], [], some (.inr (.inr (.inr (.inl (0, 1)))))), [])]
def zc_2050 : zCt := (238, 0, [.inr (.inl 466)], [], [], .branch 477 (.leaf (467, 112, 73, .inr 3, [((19, []), .inr (.inl 477)), ((34, []), .inr (.inr (.inr (.inl (0, 1))))), ((40, []), .inr (.inl 492))])) (.branch 492 (.leaf (478, 0, 2, .inl (0, 12), [])) (.leaf (493, 0, 69, .inr 2, []))), zw_2050, [], zp_2050.map (fun p => p.1))
def zu_2050 : List zCu := [(([(238, 2, [(1, .inl (0, [(0, 1)])), (0, .inr (.inl 466))], [])], .branch 477 (.leaf (467, 112, 73, .inr 3, [((19, []), .inr (.inl 477)), ((34, []), .inr (.inr (.inr (.inl (0, 1))))), ((40, []), .inr (.inl 492))])) (.branch 492 (.leaf (478, 0, 2, .inl (0, 12), [])) (.leaf (493, 0, 69, .inr 2, []))), [(0, 12)], [], []), [.inl (0, 1)], (12, [(0, (-1))]))]
def zs_2050 : List zCt := []
theorem za_2050 : zwin zw_2050 zc_2050.2.2.2.2.2.1 = true := by decide +kernel
theorem z0_2050 : zst0 mi_P zw_2050 [] [] (fun d y as t en => zcal zw_2050 d y as t en zs_2050) zc_2050 zp_2050 zu_2050 238 = true := by decide +kernel
theorem zk_2050 : zu_2050.all (zck mi_P zc_2050.2.1 zw_2050 false [] [] (fun d y as t en => zcal zw_2050 d y as t en zs_2050) zc_2050.2.2.2.1.length zc_2050.2.2.2.1 zc_2050.2.2.2.2.2.1 zp_2050 zu_2050 238) = true := by decide +kernel
theorem zt_2050 {S : Nat × (Nat → Int32)} : zCtr mi_P S zTt zc_2050 := by
  have hc : ∀ c ∈ zs_2050, zCtr mi_P S zTt c := fun c hc => by cases hc
  exact zCtr_of (Om := zTt) (ct := zc_2050) (ps := zp_2050) (fun _ _ _ _ => trivial) rfl hc za_2050 z0_2050 zk_2050
/-- LModel.clearPeaks()V -/
def zw_2051 : zW := .branch 494 (.leaf (467, [49, 50, 51])) (.branch 495 (.leaf (495, [0])) (.leaf (496, [0])))
def zp_2051 : List (zPo × List (Nat ⊕ (Nat × zL))) := [(([], [], [(466, [((49, []), zaI), ((50, []), zaI), ((51, []), zaI)]), (494, []), (495, [])], none), [])]
def zc_2051 : zCt := (237, 0, [.inr (.inl 466)], [], [], .branch 494 (.leaf (467, 112, 73, .inr 3, [((47, []), .inr (.inl 494)), ((48, []), .inr (.inl 495)), ((49, []), zaI), ((50, []), zaI), ((51, []), zaI)])) (.branch 495 (.leaf (495, 0, 3, .inl ((-2147483648), 2147483647), [])) (.leaf (496, 0, 2, .inl ((-2147483648), 2147483647), []))), zw_2051, [], zp_2051.map (fun p => p.1))
def zu_2051 : List zCu := [(([(237, 2, [(1, .inl (0, [(0, 1)])), (0, .inr (.inl 466))], [])], .branch 494 (.leaf (467, 112, 73, .inr 3, [((47, []), .inr (.inl 494)), ((48, []), .inr (.inl 495)), ((49, []), zaI), ((50, []), zaI), ((51, []), zaI)])) (.branch 495 (.leaf (495, 0, 3, .inl ((-2147483648), 2147483647), [])) (.leaf (496, 0, 2, .inl ((-2147483648), 2147483647), []))), [(0, 3)], [], []), [.inl (0, 1)], (3, [(0, (-1))]))]
def zs_2051 : List zCt := []
theorem za_2051 : zwin zw_2051 zc_2051.2.2.2.2.2.1 = true := by decide +kernel
theorem z0_2051 : zst0 mi_P zw_2051 [] [] (fun d y as t en => zcal zw_2051 d y as t en zs_2051) zc_2051 zp_2051 zu_2051 258 = true := by decide +kernel
theorem zk_2051 : zu_2051.all (zck mi_P zc_2051.2.1 zw_2051 false [] [] (fun d y as t en => zcal zw_2051 d y as t en zs_2051) zc_2051.2.2.2.1.length zc_2051.2.2.2.1 zc_2051.2.2.2.2.2.1 zp_2051 zu_2051 258) = true := by decide +kernel
theorem zt_2051 {S : Nat × (Nat → Int32)} : zCtr mi_P S zTt zc_2051 := by
  have hc : ∀ c ∈ zs_2051, zCtr mi_P S zTt c := fun c hc => by cases hc
  exact zCtr_of (Om := zTt) (ct := zc_2051) (ps := zp_2051) (fun _ _ _ _ => trivial) rfl hc za_2051 z0_2051 zk_2051
/-- LModel.longestWait()I -/
def zw_2053 : zW := .leaf (0, [])
def zp_2053 : List (zPo × List (Nat ⊕ (Nat × zL))) := [(([], [], [], some (zaI)), [])]
def zc_2053 : zCt := (239, 1, [.inr (.inl 466)], [], [], .branch 492 (.branch 477 (.leaf (467, 112, 73, .inr 3, [((19, []), .inr (.inl 477)), ((34, []), .inr (.inr (.inr (.inl (0, 1))))), ((40, []), .inr (.inl 492)), ((41, []), .inr (.inl 493))])) (.leaf (478, 0, 2, .inl (0, 12), []))) (.branch 493 (.leaf (493, 0, 69, .inr 2, [])) (.leaf (494, 0, 12, .inl ((-2147483648), 2147483647), []))), zw_2053, [], zp_2053.map (fun p => p.1))
def zu_2053 : List zCu := [(([(239, 4, [(2, .inl (0, [(0, 1)])), (1, .inl (0, [(1, 1)])), (0, .inr (.inl 466))], [])], .branch 492 (.branch 477 (.leaf (467, 112, 73, .inr 3, [((19, []), .inr (.inl 477)), ((34, []), .inr (.inr (.inr (.inl (0, 1))))), ((40, []), .inr (.inl 492)), ((41, []), .inr (.inl 493))])) (.leaf (478, 0, 2, .inl (0, 12), []))) (.branch 493 (.leaf (493, 0, 69, .inr 2, [])) (.leaf (494, 0, 12, .inl ((-2147483648), 2147483647), []))), [(0, 12), ((-2147483648), 2147483647)], [], []), [.inl (0, 2), .inl (0, 1)], (12, [(0, (-1))]))]
def zs_2053 : List zCt := []
theorem za_2053 : zwin zw_2053 zc_2053.2.2.2.2.2.1 = true := by decide +kernel
theorem z0_2053 : zst0 mi_P zw_2053 [] [] (fun d y as t en => zcal zw_2053 d y as t en zs_2053) zc_2053 zp_2053 zu_2053 370 = true := by decide +kernel
theorem zk_2053 : zu_2053.all (zck mi_P zc_2053.2.1 zw_2053 false [] [] (fun d y as t en => zcal zw_2053 d y as t en zs_2053) zc_2053.2.2.2.1.length zc_2053.2.2.2.1 zc_2053.2.2.2.2.2.1 zp_2053 zu_2053 370) = true := by decide +kernel
theorem zt_2053 {S : Nat × (Nat → Int32)} : zCtr mi_P S zTt zc_2053 := by
  have hc : ∀ c ∈ zs_2053, zCtr mi_P S zTt c := fun c hc => by cases hc
  exact zCtr_of (Om := zTt) (ct := zc_2053) (ps := zp_2053) (fun _ _ _ _ => trivial) rfl hc za_2053 z0_2053 zk_2053
/-- LModel.waits()I -/
def zw_2054 : zW := .leaf (0, [])
def zp_2054 : List (zPo × List (Nat ⊕ (Nat × zL))) := [(([], [], [], some (zaI)), [])]
def zc_2054 : zCt := (240, 1, [.inr (.inl 466)], [], [], .branch 492 (.branch 477 (.leaf (467, 112, 73, .inr 3, [((19, []), .inr (.inl 477)), ((34, []), .inr (.inr (.inr (.inl (0, 1))))), ((40, []), .inr (.inl 492)), ((41, []), .inr (.inl 493))])) (.leaf (478, 0, 2, .inl (0, 12), []))) (.branch 493 (.leaf (493, 0, 69, .inr 2, [])) (.leaf (494, 0, 12, .inl ((-2147483648), 2147483647), []))), zw_2054, [], zp_2054.map (fun p => p.1))
def zu_2054 : List zCu := [(([(240, 4, [(2, .inl (0, [(0, 1)])), (1, .inl (0, [(1, 1)])), (0, .inr (.inl 466))], [])], .branch 492 (.branch 477 (.leaf (467, 112, 73, .inr 3, [((19, []), .inr (.inl 477)), ((34, []), .inr (.inr (.inr (.inl (0, 1))))), ((40, []), .inr (.inl 492)), ((41, []), .inr (.inl 493))])) (.leaf (478, 0, 2, .inl (0, 12), []))) (.branch 493 (.leaf (493, 0, 69, .inr 2, [])) (.leaf (494, 0, 12, .inl ((-2147483648), 2147483647), []))), [(0, 12), ((-2147483648), 2147483647)], [], []), [.inl (0, 2), .inl (0, 1)], (12, [(0, (-1))]))]
def zs_2054 : List zCt := []
theorem za_2054 : zwin zw_2054 zc_2054.2.2.2.2.2.1 = true := by decide +kernel
theorem z0_2054 : zst0 mi_P zw_2054 [] [] (fun d y as t en => zcal zw_2054 d y as t en zs_2054) zc_2054 zp_2054 zu_2054 338 = true := by decide +kernel
theorem zk_2054 : zu_2054.all (zck mi_P zc_2054.2.1 zw_2054 false [] [] (fun d y as t en => zcal zw_2054 d y as t en zs_2054) zc_2054.2.2.2.1.length zc_2054.2.2.2.1 zc_2054.2.2.2.2.2.1 zp_2054 zu_2054 338) = true := by decide +kernel
theorem zt_2054 {S : Nat × (Nat → Int32)} : zCtr mi_P S zTt zc_2054 := by
  have hc : ∀ c ∈ zs_2054, zCtr mi_P S zTt c := fun c hc => by cases hc
  exact zCtr_of (Om := zTt) (ct := zc_2054) (ps := zp_2054) (fun _ _ _ _ => trivial) rfl hc za_2054 z0_2054 zk_2054
/-- LModel.outside()I -/
def zw_2055 : zW := .leaf (0, [])
def zp_2055 : List (zPo × List (Nat ⊕ (Nat × zL))) := [(([], [], [], some (zaI)), [])]
def zc_2055 : zCt := (241, 0, [.inr (.inl 466)], [], [], .branch 476 (.leaf (467, 112, 73, .inr 3, [((18, []), .inr (.inl 476)), ((34, []), .inr (.inr (.inr (.inl (0, 1))))), ((40, []), .inr (.inl 492))])) (.branch 492 (.leaf (477, 0, 2, .inl (0, 4), [])) (.leaf (493, 0, 69, .inr 2, []))), zw_2055, [], zp_2055.map (fun p => p.1))
def zu_2055 : List zCu := [(([(241, 4, [(2, .inl (0, [(0, 1)])), (1, .inl (0, [(1, 1)])), (0, .inr (.inl 466))], [])], .branch 476 (.leaf (467, 112, 73, .inr 3, [((18, []), .inr (.inl 476)), ((34, []), .inr (.inr (.inr (.inl (0, 1))))), ((40, []), .inr (.inl 492))])) (.branch 492 (.leaf (477, 0, 2, .inl (0, 4), [])) (.leaf (493, 0, 69, .inr 2, []))), [(0, 4), ((-2147483648), 2147483647)], [], []), [.inl (0, 2), .inl (0, 1)], (4, [(0, (-1))]))]
def zs_2055 : List zCt := []
theorem za_2055 : zwin zw_2055 zc_2055.2.2.2.2.2.1 = true := by decide +kernel
theorem z0_2055 : zst0 mi_P zw_2055 [] [] (fun d y as t en => zcal zw_2055 d y as t en zs_2055) zc_2055 zp_2055 zu_2055 246 = true := by decide +kernel
theorem zk_2055 : zu_2055.all (zck mi_P zc_2055.2.1 zw_2055 false [] [] (fun d y as t en => zcal zw_2055 d y as t en zs_2055) zc_2055.2.2.2.1.length zc_2055.2.2.2.1 zc_2055.2.2.2.2.2.1 zp_2055 zu_2055 246) = true := by decide +kernel
theorem zt_2055 {S : Nat × (Nat → Int32)} : zCtr mi_P S zTt zc_2055 := by
  have hc : ∀ c ∈ zs_2055, zCtr mi_P S zTt c := fun c hc => by cases hc
  exact zCtr_of (Om := zTt) (ct := zc_2055) (ps := zp_2055) (fun _ _ _ _ => trivial) rfl hc za_2055 z0_2055 zk_2055
/-- LModel.headsThrough()I -/
def zw_2056 : zW := .leaf (0, [])
def zp_2056 : List (zPo × List (Nat ⊕ (Nat × zL))) := [(([], [], [], some (zaI)), [])]
def zc_2056 : zCt := (242, 1, [.inr (.inl 466)], [], [], .branch 480 (.branch 477 (.leaf (467, 112, 73, .inr 3, [((19, []), .inr (.inl 477)), ((22, []), .inr (.inl 480)), ((34, []), .inr (.inr (.inr (.inl (0, 1))))), ((40, []), .inr (.inl 492))])) (.leaf (478, 0, 2, .inl (0, 12), []))) (.branch 492 (.leaf (481, 0, 24, .inl ((-2147483648), 2147483647), [])) (.leaf (493, 0, 69, .inr 2, []))), zw_2056, [], zp_2056.map (fun p => p.1))
def zu_2056 : List zCu := [(([(242, 4, [(2, .inl (0, [(0, 1)])), (1, .inl (0, [(1, 1)])), (0, .inr (.inl 466))], [])], .branch 480 (.branch 477 (.leaf (467, 112, 73, .inr 3, [((19, []), .inr (.inl 477)), ((22, []), .inr (.inl 480)), ((34, []), .inr (.inr (.inr (.inl (0, 1))))), ((40, []), .inr (.inl 492))])) (.leaf (478, 0, 2, .inl (0, 12), []))) (.branch 492 (.leaf (481, 0, 24, .inl ((-2147483648), 2147483647), [])) (.leaf (493, 0, 69, .inr 2, []))), [(0, 12), ((-2147483648), 2147483647)], [], []), [.inl (0, 2), .inl (0, 1)], (12, [(0, (-1))]))]
def zs_2056 : List zCt := []
theorem za_2056 : zwin zw_2056 zc_2056.2.2.2.2.2.1 = true := by decide +kernel
theorem z0_2056 : zst0 mi_P zw_2056 [] [] (fun d y as t en => zcal zw_2056 d y as t en zs_2056) zc_2056 zp_2056 zu_2056 280 = true := by decide +kernel
theorem zk_2056 : zu_2056.all (zck mi_P zc_2056.2.1 zw_2056 false [] [] (fun d y as t en => zcal zw_2056 d y as t en zs_2056) zc_2056.2.2.2.1.length zc_2056.2.2.2.1 zc_2056.2.2.2.2.2.1 zp_2056 zu_2056 280) = true := by decide +kernel
theorem zt_2056 {S : Nat × (Nat → Int32)} : zCtr mi_P S zTt zc_2056 := by
  have hc : ∀ c ∈ zs_2056, zCtr mi_P S zTt c := fun c hc => by cases hc
  exact zCtr_of (Om := zTt) (ct := zc_2056) (ps := zp_2056) (fun _ _ _ _ => trivial) rfl hc za_2056 z0_2056 zk_2056
/-- LModel.laySpan(II)V -/
def zw_2058 : zW := .leaf (467, [68, 69, 70])
def zp_2058 : List (zPo × List (Nat ⊕ (Nat × zL))) := [(([], [], [(466, [((68, []), zaI), ((69, []), zaI), ((70, []), zaI)])], none), [])]
def zc_2058 : zCt := (270, 0, [.inr (.inl 466), zaI, zaI], [], [], .branch 503 (.branch 501 (.leaf (467, 112, 73, .inr 3, [((60, []), .inr (.inl 501)), ((61, []), .inr (.inl 502)), ((62, []), .inr (.inl 503)), ((63, []), .inr (.inl 504)), ((64, []), .inr (.inl 505)), ((65, []), .inr (.inl 506)), ((66, []), .inr (.inr (.inr (.inl (0, 30))))), ((68, []), zaI), ((69, []), zaI), ((70, []), zaI)])) (.branch 502 (.leaf (502, 0, 30, .inl ((-2147483648), 2147483647), [])) (.leaf (503, 0, 30, .inl ((-2147483648), 2147483647), [])))) (.branch 505 (.branch 504 (.leaf (504, 0, 30, .inl ((-2147483648), 2147483647), [])) (.leaf (505, 0, 30, .inl ((-2147483648), 2147483647), []))) (.branch 506 (.leaf (506, 0, 30, .inl ((-2147483648), 2147483647), [])) (.leaf (507, 0, 30, .inl ((-2147483648), 2147483647), [])))), zw_2058, [], zp_2058.map (fun p => p.1))
def zu_2058 : List zCu := [(([(270, 11, [(3, .inl (0, [(2, 1)])), (0, .inr (.inl 466)), (1, .inl (0, [(0, 1)])), (2, .inl (0, [(1, 1)]))], [])], .branch 503 (.branch 501 (.leaf (467, 112, 73, .inr 3, [((60, []), .inr (.inl 501)), ((61, []), .inr (.inl 502)), ((62, []), .inr (.inl 503)), ((63, []), .inr (.inl 504)), ((64, []), .inr (.inl 505)), ((65, []), .inr (.inl 506)), ((66, []), .inr (.inr (.inr (.inl (0, 30))))), ((68, []), .inr (.inr (.inr (.inl (0, 2147483647))))), ((69, []), .inr (.inr (.inr (.inl ((-2147483648), 480))))), ((70, []), .inr (.inr (.inr (.inl ((-1), 2147483647)))))])) (.branch 502 (.leaf (502, 0, 30, .inl ((-2147483648), 2147483647), [])) (.leaf (503, 0, 30, .inl ((-2147483648), 2147483647), [])))) (.branch 505 (.branch 504 (.leaf (504, 0, 30, .inl ((-2147483648), 2147483647), [])) (.leaf (505, 0, 30, .inl ((-2147483648), 2147483647), []))) (.branch 506 (.leaf (506, 0, 30, .inl ((-2147483648), 2147483647), [])) (.leaf (507, 0, 30, .inl ((-2147483648), 2147483647), [])))), [((-2147483648), 2147483647), ((-2147483648), 2147483647), (0, 30)], [], []), [.inl (0, 1), .inl (0, 2), .inl (0, 3)], (30, [(2, (-1))]))]
def zs_2058 : List zCt := []
theorem za_2058 : zwin zw_2058 zc_2058.2.2.2.2.2.1 = true := by decide +kernel
theorem z0_2058 : zst0 mi_P zw_2058 [] [] (fun d y as t en => zcal zw_2058 d y as t en zs_2058) zc_2058 zp_2058 zu_2058 696 = true := by decide +kernel
theorem zk_2058 : zu_2058.all (zck mi_P zc_2058.2.1 zw_2058 false [] [] (fun d y as t en => zcal zw_2058 d y as t en zs_2058) zc_2058.2.2.2.1.length zc_2058.2.2.2.1 zc_2058.2.2.2.2.2.1 zp_2058 zu_2058 696) = true := by decide +kernel
theorem zt_2058 {S : Nat × (Nat → Int32)} : zCtr mi_P S zTt zc_2058 := by
  have hc : ∀ c ∈ zs_2058, zCtr mi_P S zTt c := fun c hc => by cases hc
  exact zCtr_of (Om := zTt) (ct := zc_2058) (ps := zp_2058) (fun _ _ _ _ => trivial) rfl hc za_2058 z0_2058 zk_2058
/-- LModel.exchange()V -/
def zw_2059 : zW := .branch 496 (.leaf (493, [0])) (.leaf (497, [0]))
def zp_2059 : List (zPo × List (Nat ⊕ (Nat × zL))) := [(([], [], [(492, []), (496, [])], none), [])]
def zc_2059 : zCt := (232, 0, [.inr (.inl 466)], [], [], .branch 492 (.leaf (467, 112, 73, .inr 3, [((40, []), .inr (.inl 492)), ((52, []), .inr (.inl 496)), ((53, []), .inr (.inr (.inr (.inl (0, 40)))))])) (.branch 496 (.leaf (493, 0, 69, .inr 2, [])) (.leaf (497, 0, 2829, .inr 2, []))), zw_2059, [], zp_2059.map (fun p => p.1))
def zu_2059 : List zCu := [(([(232, 2, [(1, .inl (0, [(0, 1)])), (0, .inr (.inl 466))], [])], .branch 492 (.leaf (467, 112, 73, .inr 3, [((40, []), .inr (.inl 492)), ((52, []), .inr (.inl 496)), ((53, []), .inr (.inr (.inr (.inl (0, 40)))))])) (.branch 496 (.leaf (493, 0, 69, .inr 2, [])) (.leaf (497, 0, 2829, .inr 2, []))), [(0, 69)], [], []), [.inl (0, 1)], (69, [(0, (-1))]))]
def zs_2059 : List zCt := []
theorem za_2059 : zwin zw_2059 zc_2059.2.2.2.2.2.1 = true := by decide +kernel
theorem z0_2059 : zst0 mi_P zw_2059 [] [] (fun d y as t en => zcal zw_2059 d y as t en zs_2059) zc_2059 zp_2059 zu_2059 266 = true := by decide +kernel
theorem zk_2059 : zu_2059.all (zck mi_P zc_2059.2.1 zw_2059 false [] [] (fun d y as t en => zcal zw_2059 d y as t en zs_2059) zc_2059.2.2.2.1.length zc_2059.2.2.2.1 zc_2059.2.2.2.2.2.1 zp_2059 zu_2059 266) = true := by decide +kernel
theorem zt_2059 {S : Nat × (Nat → Int32)} : zCtr mi_P S zTt zc_2059 := by
  have hc : ∀ c ∈ zs_2059, zCtr mi_P S zTt c := fun c hc => by cases hc
  exact zCtr_of (Om := zTt) (ct := zc_2059) (ps := zp_2059) (fun _ _ _ _ => trivial) rfl hc za_2059 z0_2059 zk_2059
/-- LModel.undo()Z -/
def zw_2060 : zW := .branch 492 (.leaf (467, [53, 54])) (.branch 496 (.leaf (493, [0])) (.leaf (497, [0])))
def zp_2060 : List (zPo × List (Nat ⊕ (Nat × zL))) := [(([(0, 40), (0, 40)], [((-40), [(2, 1), (3, 1)])], [(466, [((53, []), .inl (0, [(2, 1)])), ((54, []), .inl (0, [(3, 1)]))]), (492, []), (496, [])], some (.inr (.inr (.inr (.inl (0, 1)))))), [.inr (466, (53, [])), .inr (466, (54, []))])]
def zc_2060 : zCt := (231, 1, [.inr (.inl 466)], [(0, 40), (0, 40)], [((-40), [(0, 1), (1, 1)])], .branch 492 (.leaf (467, 112, 73, .inr 3, [((40, []), .inr (.inl 492)), ((52, []), .inr (.inl 496)), ((53, []), .inl (0, [(0, 1)])), ((54, []), .inl (0, [(1, 1)]))])) (.branch 496 (.leaf (493, 0, 69, .inr 2, [])) (.leaf (497, 0, 2829, .inr 2, []))), zw_2060, [.inr (466, (53, [])), .inr (466, (54, []))], zp_2060.map (fun p => p.1))
def zu_2060 : List zCu := []
def zs_2060 : List zCt := [zc_2059]
theorem za_2060 : zwin zw_2060 zc_2060.2.2.2.2.2.1 = true := by decide +kernel
theorem z0_2060 : zst0 mi_P zw_2060 [] [] (fun d y as t en => zcal zw_2060 d y as t en zs_2060) zc_2060 zp_2060 zu_2060 238 = true := by decide +kernel
theorem zk_2060 : zu_2060.all (zck mi_P zc_2060.2.1 zw_2060 false [] [] (fun d y as t en => zcal zw_2060 d y as t en zs_2060) zc_2060.2.2.2.1.length zc_2060.2.2.2.1 zc_2060.2.2.2.2.2.1 zp_2060 zu_2060 238) = true := by decide +kernel
theorem zt_2060 {S : Nat × (Nat → Int32)} : zCtr mi_P S zTt zc_2060 := by
  have hc : ∀ c ∈ zs_2060, zCtr mi_P S zTt c := by
    intro c hc
    simp only [zs_2060, List.mem_cons, List.not_mem_nil, or_false] at hc
    rcases hc with rfl
    · exact zt_2059
  exact zCtr_of (Om := zTt) (ct := zc_2060) (ps := zp_2060) (fun _ _ _ _ => trivial) rfl hc za_2060 z0_2060 zk_2060
/-- LModel.redo()Z -/
def zw_2061 : zW := .branch 492 (.leaf (467, [53, 54])) (.branch 496 (.leaf (493, [0])) (.leaf (497, [0])))
def zp_2061 : List (zPo × List (Nat ⊕ (Nat × zL))) := [(([(0, 40), (0, 40)], [((-40), [(2, 1), (3, 1)])], [(466, [((53, []), .inl (0, [(2, 1)])), ((54, []), .inl (0, [(3, 1)]))]), (492, []), (496, [])], some (.inr (.inr (.inr (.inl (0, 1)))))), [.inr (466, (53, [])), .inr (466, (54, []))])]
def zc_2061 : zCt := (233, 1, [.inr (.inl 466)], [(0, 40), (0, 40)], [((-40), [(0, 1), (1, 1)])], .branch 492 (.leaf (467, 112, 73, .inr 3, [((40, []), .inr (.inl 492)), ((52, []), .inr (.inl 496)), ((53, []), .inl (0, [(0, 1)])), ((54, []), .inl (0, [(1, 1)]))])) (.branch 496 (.leaf (493, 0, 69, .inr 2, [])) (.leaf (497, 0, 2829, .inr 2, []))), zw_2061, [.inr (466, (53, [])), .inr (466, (54, []))], zp_2061.map (fun p => p.1))
def zu_2061 : List zCu := []
def zs_2061 : List zCt := [zc_2059]
theorem za_2061 : zwin zw_2061 zc_2061.2.2.2.2.2.1 = true := by decide +kernel
theorem z0_2061 : zst0 mi_P zw_2061 [] [] (fun d y as t en => zcal zw_2061 d y as t en zs_2061) zc_2061 zp_2061 zu_2061 238 = true := by decide +kernel
theorem zk_2061 : zu_2061.all (zck mi_P zc_2061.2.1 zw_2061 false [] [] (fun d y as t en => zcal zw_2061 d y as t en zs_2061) zc_2061.2.2.2.1.length zc_2061.2.2.2.1 zc_2061.2.2.2.2.2.1 zp_2061 zu_2061 238) = true := by decide +kernel
theorem zt_2061 {S : Nat × (Nat → Int32)} : zCtr mi_P S zTt zc_2061 := by
  have hc : ∀ c ∈ zs_2061, zCtr mi_P S zTt c := by
    intro c hc
    simp only [zs_2061, List.mem_cons, List.not_mem_nil, or_false] at hc
    rcases hc with rfl
    · exact zt_2059
  exact zCtr_of (Om := zTt) (ct := zc_2061) (ps := zp_2061) (fun _ _ _ _ => trivial) rfl hc za_2061 z0_2061 zk_2061
/-- LModel.feed(IIIII)I -/
def zw_2062 : zW := .branch 467 (.leaf (467, [2])) (.leaf (468, [0]))
def zp_2062 : List (zPo × List (Nat ⊕ (Nat × zL))) := [(([], [], [(466, [((2, []), .inr (.inr (.inr (.inl (0, 1600)))))]), (467, [])], some (.inr (.inr (.inr (.inl ((-1), 1600)))))), [])]
def zc_2062 : zCt := (276, 0, [.inr (.inl 466), zaI, zaI, zaI, zaI, zaI], [], [], .branch 467 (.leaf (467, 112, 73, .inr 3, [((0, []), .inr (.inl 467)), ((2, []), .inr (.inr (.inr (.inl (0, 1600)))))])) (.leaf (468, 1, 1620, .inl ((-128), 127), [])), zw_2062, [], zp_2062.map (fun p => p.1))
def zu_2062 : List zCu := [(([(276, 10, [(6, .inl (0, [(5, 1)])), (0, .inr (.inl 466)), (1, .inl (0, [(0, 1)])), (2, .inl (0, [(1, 1)])), (3, .inl (0, [(2, 1)])), (4, .inl (0, [(3, 1)])), (5, .inl (0, [(4, 1)]))], [])], .branch 467 (.leaf (467, 112, 73, .inr 3, [((0, []), .inr (.inl 467)), ((2, []), .inr (.inr (.inr (.inl (0, 1580)))))])) (.leaf (468, 1, 1620, .inl ((-128), 127), [])), [((-2147483648), 2147483647), ((-2147483648), 2147483647), ((-2147483648), 2147483647), ((-2147483648), 2147483647), ((-2147483648), 2147483647), (0, 20)], [], []), [.inl (0, 1), .inl (0, 2), .inl (0, 3), .inl (0, 4), .inl (0, 5), .inl (0, 6)], (20, [(5, (-1))]))]
def zs_2062 : List zCt := []
theorem za_2062 : zwin zw_2062 zc_2062.2.2.2.2.2.1 = true := by decide +kernel
theorem z0_2062 : zst0 mi_P zw_2062 [] [] (fun d y as t en => zcal zw_2062 d y as t en zs_2062) zc_2062 zp_2062 zu_2062 464 = true := by decide +kernel
theorem zk_2062 : zu_2062.all (zck mi_P zc_2062.2.1 zw_2062 false [] [] (fun d y as t en => zcal zw_2062 d y as t en zs_2062) zc_2062.2.2.2.1.length zc_2062.2.2.2.1 zc_2062.2.2.2.2.2.1 zp_2062 zu_2062 464) = true := by decide +kernel
theorem zt_2062 {S : Nat × (Nat → Int32)} : zCtr mi_P S zTt zc_2062 := by
  have hc : ∀ c ∈ zs_2062, zCtr mi_P S zTt c := fun c hc => by cases hc
  exact zCtr_of (Om := zTt) (ct := zc_2062) (ps := zp_2062) (fun _ _ _ _ => trivial) rfl hc za_2062 z0_2062 zk_2062
/-- LModel.end(I)I -/
def zw_2063 : zW := .leaf (467, [2])
def zp_2063 : List (zPo × List (Nat ⊕ (Nat × zL))) := [(([], [], [(466, [((2, []), .inr (.inr (.inr (.inl (0, 1600)))))])], some (.inr (.inr (.inr (.inl ((-1), 1600)))))), [])]
def zc_2063 : zCt := (277, 0, [.inr (.inl 466), zaI], [], [], .leaf (467, 112, 73, .inr 3, [((2, []), .inr (.inr (.inr (.inl (0, 1600)))))]), zw_2063, [], zp_2063.map (fun p => p.1))
def zu_2063 : List zCu := []
def zs_2063 : List zCt := []
theorem za_2063 : zwin zw_2063 zc_2063.2.2.2.2.2.1 = true := by decide +kernel
theorem z0_2063 : zst0 mi_P zw_2063 [] [] (fun d y as t en => zcal zw_2063 d y as t en zs_2063) zc_2063 zp_2063 zu_2063 224 = true := by decide +kernel
theorem zk_2063 : zu_2063.all (zck mi_P zc_2063.2.1 zw_2063 false [] [] (fun d y as t en => zcal zw_2063 d y as t en zs_2063) zc_2063.2.2.2.1.length zc_2063.2.2.2.1 zc_2063.2.2.2.2.2.1 zp_2063 zu_2063 224) = true := by decide +kernel
theorem zt_2063 {S : Nat × (Nat → Int32)} : zCtr mi_P S zTt zc_2063 := by
  have hc : ∀ c ∈ zs_2063, zCtr mi_P S zTt c := fun c hc => by cases hc
  exact zCtr_of (Om := zTt) (ct := zc_2063) (ps := zp_2063) (fun _ _ _ _ => trivial) rfl hc za_2063 z0_2063 zk_2063
/-- LModel.fault(I)I -/
def zw_2064 : zW := .leaf (0, [])
def zp_2064 : List (zPo × List (Nat ⊕ (Nat × zL))) := [(([], [], [], some (zaI)), [])]
def zc_2064 : zCt := (199, 0, [.inr (.inl 466), zaI], [], [], .leaf (467, 112, 73, .inr 3, [((4, []), .inr (.inr (.inr (.inl (0, 4))))), ((5, []), zaI)]), zw_2064, [], zp_2064.map (fun p => p.1))
def zu_2064 : List zCu := []
def zs_2064 : List zCt := []
theorem za_2064 : zwin zw_2064 zc_2064.2.2.2.2.2.1 = true := by decide +kernel
theorem z0_2064 : zst0 mi_P zw_2064 [] [] (fun d y as t en => zcal zw_2064 d y as t en zs_2064) zc_2064 zp_2064 zu_2064 224 = true := by decide +kernel
theorem zk_2064 : zu_2064.all (zck mi_P zc_2064.2.1 zw_2064 false [] [] (fun d y as t en => zcal zw_2064 d y as t en zs_2064) zc_2064.2.2.2.1.length zc_2064.2.2.2.1 zc_2064.2.2.2.2.2.1 zp_2064 zu_2064 224) = true := by decide +kernel
theorem zt_2064 {S : Nat × (Nat → Int32)} : zCtr mi_P S zTt zc_2064 := by
  have hc : ∀ c ∈ zs_2064, zCtr mi_P S zTt c := fun c hc => by cases hc
  exact zCtr_of (Om := zTt) (ct := zc_2064) (ps := zp_2064) (fun _ _ _ _ => trivial) rfl hc za_2064 z0_2064 zk_2064
/-- LModel.party(II)I -/
def zw_2066 : zW := .leaf (0, [])
def zp_2066 : List (zPo × List (Nat ⊕ (Nat × zL))) := [(([], [], [], some (zaI)), [])]
def zc_2066 : zCt := (207, 2, [.inr (.inl 466), zaI, zaI], [], [], .branch 482 (.branch 480 (.branch 477 (.leaf (467, 112, 73, .inr 3, [((19, []), .inr (.inl 477)), ((22, []), .inr (.inl 480)), ((23, []), .inr (.inl 481)), ((24, []), .inr (.inl 482)), ((27, []), .inr (.inl 485)), ((34, []), .inr (.inr (.inr (.inl (0, 1))))), ((40, []), .inr (.inl 492)), ((41, []), .inr (.inl 493))])) (.leaf (478, 0, 2, .inl (0, 12), []))) (.branch 481 (.leaf (481, 0, 24, .inl ((-2147483648), 2147483647), [])) (.leaf (482, 0, 24, .inl ((-2147483648), 2147483647), [])))) (.branch 492 (.branch 485 (.leaf (483, 0, 24, .inl ((-2147483648), 2147483647), [])) (.leaf (486, 2, 24, .inl (0, 1), []))) (.branch 493 (.leaf (493, 0, 69, .inr 2, [])) (.leaf (494, 0, 12, .inl ((-2147483648), 2147483647), [])))), zw_2066, [], zp_2066.map (fun p => p.1))
def zu_2066 : List zCu := []
def zs_2066 : List zCt := []
theorem za_2066 : zwin zw_2066 zc_2066.2.2.2.2.2.1 = true := by decide +kernel
theorem z0_2066 : zst0 mi_P zw_2066 [] [] (fun d y as t en => zcal zw_2066 d y as t en zs_2066) zc_2066 zp_2066 zu_2066 452 = true := by decide +kernel
theorem zk_2066 : zu_2066.all (zck mi_P zc_2066.2.1 zw_2066 false [] [] (fun d y as t en => zcal zw_2066 d y as t en zs_2066) zc_2066.2.2.2.1.length zc_2066.2.2.2.1 zc_2066.2.2.2.2.2.1 zp_2066 zu_2066 452) = true := by decide +kernel
theorem zt_2066 {S : Nat × (Nat → Int32)} : zCtr mi_P S zTt zc_2066 := by
  have hc : ∀ c ∈ zs_2066, zCtr mi_P S zTt c := fun c hc => by cases hc
  exact zCtr_of (Om := zTt) (ct := zc_2066) (ps := zp_2066) (fun _ _ _ _ => trivial) rfl hc za_2066 z0_2066 zk_2066
/-- LModel.door(I)I -/
def zw_2067 : zW := .leaf (0, [])
def zp_2067 : List (zPo × List (Nat ⊕ (Nat × zL))) := [(([], [], [], some (zaI)), [])]
def zc_2067 : zCt := (210, 1, [.inr (.inl 466), zaI], [], [], .branch 492 (.leaf (467, 112, 73, .inr 3, [((40, []), .inr (.inl 492))])) (.leaf (493, 0, 69, .inr 2, [])), zw_2067, [], zp_2067.map (fun p => p.1))
def zu_2067 : List zCu := []
def zs_2067 : List zCt := []
theorem za_2067 : zwin zw_2067 zc_2067.2.2.2.2.2.1 = true := by decide +kernel
theorem z0_2067 : zst0 mi_P zw_2067 [] [] (fun d y as t en => zcal zw_2067 d y as t en zs_2067) zc_2067 zp_2067 zu_2067 258 = true := by decide +kernel
theorem zk_2067 : zu_2067.all (zck mi_P zc_2067.2.1 zw_2067 false [] [] (fun d y as t en => zcal zw_2067 d y as t en zs_2067) zc_2067.2.2.2.1.length zc_2067.2.2.2.1 zc_2067.2.2.2.2.2.1 zp_2067 zu_2067 258) = true := by decide +kernel
theorem zt_2067 {S : Nat × (Nat → Int32)} : zCtr mi_P S zTt zc_2067 := by
  have hc : ∀ c ∈ zs_2067, zCtr mi_P S zTt c := fun c hc => by cases hc
  exact zCtr_of (Om := zTt) (ct := zc_2067) (ps := zp_2067) (fun _ _ _ _ => trivial) rfl hc za_2067 z0_2067 zk_2067
/-- LModel.line(I)I -/
def zw_2068 : zW := .leaf (0, [])
def zp_2068 : List (zPo × List (Nat ⊕ (Nat × zL))) := [(([], [], [], some (zaI)), [])]
def zc_2068 : zCt := (211, 1, [.inr (.inl 466), zaI], [], [], .branch 485 (.branch 477 (.leaf (467, 112, 73, .inr 3, [((19, []), .inr (.inl 477)), ((27, []), .inr (.inl 485)), ((34, []), .inr (.inr (.inr (.inl (0, 1))))), ((40, []), .inr (.inl 492))])) (.leaf (478, 0, 2, .inl (0, 12), []))) (.branch 492 (.leaf (486, 2, 24, .inl (0, 1), [])) (.leaf (493, 0, 69, .inr 2, []))), zw_2068, [], zp_2068.map (fun p => p.1))
def zu_2068 : List zCu := [(([(211, 11, [(3, .inl (0, [(1, 1)])), (2, .inl (0, [(2, 1)])), (0, .inr (.inl 466)), (1, .inl (0, [(0, 1)]))], [])], .branch 485 (.branch 477 (.leaf (467, 112, 73, .inr 3, [((19, []), .inr (.inl 477)), ((27, []), .inr (.inl 485)), ((34, []), .inr (.inr (.inr (.inl (0, 1))))), ((40, []), .inr (.inl 492))])) (.leaf (478, 0, 2, .inl (0, 12), []))) (.branch 492 (.leaf (486, 2, 24, .inl (0, 1), [])) (.leaf (493, 0, 69, .inr 2, []))), [(0, 2), (0, 12), ((-2147483648), 2147483647)], [], []), [.inl (0, 1), .inl (0, 3), .inl (0, 2)], (12, [(1, (-1))]))]
def zs_2068 : List zCt := []
theorem za_2068 : zwin zw_2068 zc_2068.2.2.2.2.2.1 = true := by decide +kernel
theorem z0_2068 : zst0 mi_P zw_2068 [] [] (fun d y as t en => zcal zw_2068 d y as t en zs_2068) zc_2068 zp_2068 zu_2068 448 = true := by decide +kernel
theorem zk_2068 : zu_2068.all (zck mi_P zc_2068.2.1 zw_2068 false [] [] (fun d y as t en => zcal zw_2068 d y as t en zs_2068) zc_2068.2.2.2.1.length zc_2068.2.2.2.1 zc_2068.2.2.2.2.2.1 zp_2068 zu_2068 448) = true := by decide +kernel
theorem zt_2068 {S : Nat × (Nat → Int32)} : zCtr mi_P S zTt zc_2068 := by
  have hc : ∀ c ∈ zs_2068, zCtr mi_P S zTt c := fun c hc => by cases hc
  exact zCtr_of (Om := zTt) (ct := zc_2068) (ps := zp_2068) (fun _ _ _ _ => trivial) rfl hc za_2068 z0_2068 zk_2068
/-- LModel.net(I)I -/
def zw_2070 : zW := .branch 492 (.leaf (467, [53, 54])) (.branch 496 (.leaf (493, [0])) (.leaf (497, [0])))
def zp_2070 : List (zPo × List (Nat ⊕ (Nat × zL))) := [(([], [], [(466, [((53, []), .inr (.inr (.inr (.inl (0, 40))))), ((54, []), .inr (.inr (.inr (.inl (0, 40)))))]), (492, []), (496, [])], some (zaI)), [])]
def zc_2070 : zCt := (225, 2, [.inr (.inl 466), zaI], [], [], .branch 492 (.branch 476 (.leaf (467, 112, 73, .inr 3, [((18, []), .inr (.inl 476)), ((34, []), .inr (.inr (.inr (.inl (0, 1))))), ((40, []), .inr (.inl 492)), ((52, []), .inr (.inl 496)), ((53, []), .inr (.inr (.inr (.inl (0, 40))))), ((54, []), .inr (.inr (.inr (.inl (0, 40)))))])) (.leaf (477, 0, 2, .inl (0, 4), []))) (.branch 496 (.leaf (493, 0, 69, .inr 2, [])) (.leaf (497, 0, 2829, .inr 2, []))), zw_2070, [], zp_2070.map (fun p => p.1))
def zu_2070 : List zCu := []
def zs_2070 : List zCt := [zc_2046]
theorem za_2070 : zwin zw_2070 zc_2070.2.2.2.2.2.1 = true := by decide +kernel
theorem z0_2070 : zst0 mi_P zw_2070 [] [] (fun d y as t en => zcal zw_2070 d y as t en zs_2070) zc_2070 zp_2070 zu_2070 366 = true := by decide +kernel
theorem zk_2070 : zu_2070.all (zck mi_P zc_2070.2.1 zw_2070 false [] [] (fun d y as t en => zcal zw_2070 d y as t en zs_2070) zc_2070.2.2.2.1.length zc_2070.2.2.2.1 zc_2070.2.2.2.2.2.1 zp_2070 zu_2070 366) = true := by decide +kernel
theorem zt_2070 {S : Nat × (Nat → Int32)} : zCtr mi_P S zTt zc_2070 := by
  have hc : ∀ c ∈ zs_2070, zCtr mi_P S zTt c := by
    intro c hc
    simp only [zs_2070, List.mem_cons, List.not_mem_nil, or_false] at hc
    rcases hc with rfl
    · exact zt_2046
  exact zCtr_of (Om := zTt) (ct := zc_2070) (ps := zp_2070) (fun _ _ _ _ => trivial) rfl hc za_2070 z0_2070 zk_2070
/-- LModel.food(II)I -/
def zw_2071 : zW := .branch 492 (.leaf (467, [53, 54])) (.branch 496 (.leaf (493, [0])) (.leaf (497, [0])))
def zp_2071 : List (zPo × List (Nat ⊕ (Nat × zL))) := [(([], [], [(466, [((53, []), .inr (.inr (.inr (.inl (0, 40))))), ((54, []), .inr (.inr (.inr (.inl (0, 40)))))]), (492, []), (496, [])], some (zaI)), [])]
def zc_2071 : zCt := (226, 2, [.inr (.inl 466), zaI, zaI], [], [], .branch 492 (.branch 476 (.leaf (467, 112, 73, .inr 3, [((18, []), .inr (.inl 476)), ((34, []), .inr (.inr (.inr (.inl (0, 1))))), ((40, []), .inr (.inl 492)), ((52, []), .inr (.inl 496)), ((53, []), .inr (.inr (.inr (.inl (0, 40))))), ((54, []), .inr (.inr (.inr (.inl (0, 40)))))])) (.leaf (477, 0, 2, .inl (0, 4), []))) (.branch 496 (.leaf (493, 0, 69, .inr 2, [])) (.leaf (497, 0, 2829, .inr 2, []))), zw_2071, [], zp_2071.map (fun p => p.1))
def zu_2071 : List zCu := []
def zs_2071 : List zCt := [zc_2046, zc_2039]
theorem za_2071 : zwin zw_2071 zc_2071.2.2.2.2.2.1 = true := by decide +kernel
theorem z0_2071 : zst0 mi_P zw_2071 [] [] (fun d y as t en => zcal zw_2071 d y as t en zs_2071) zc_2071 zp_2071 zu_2071 402 = true := by decide +kernel
theorem zk_2071 : zu_2071.all (zck mi_P zc_2071.2.1 zw_2071 false [] [] (fun d y as t en => zcal zw_2071 d y as t en zs_2071) zc_2071.2.2.2.1.length zc_2071.2.2.2.1 zc_2071.2.2.2.2.2.1 zp_2071 zu_2071 402) = true := by decide +kernel
theorem zt_2071 {S : Nat × (Nat → Int32)} : zCtr mi_P S zTt zc_2071 := by
  have hc : ∀ c ∈ zs_2071, zCtr mi_P S zTt c := by
    intro c hc
    simp only [zs_2071, List.mem_cons, List.not_mem_nil, or_false] at hc
    rcases hc with rfl | rfl
    · exact zt_2046
    · exact zt_2039
  exact zCtr_of (Om := zTt) (ct := zc_2071) (ps := zp_2071) (fun _ _ _ _ => trivial) rfl hc za_2071 z0_2071 zk_2071
/-- LModel.curtain(I)I -/
def zw_2072 : zW := .branch 492 (.leaf (467, [53, 54])) (.branch 496 (.leaf (493, [0])) (.leaf (497, [0])))
def zp_2072 : List (zPo × List (Nat ⊕ (Nat × zL))) := [(([], [], [(466, [((53, []), .inr (.inr (.inr (.inl (0, 40))))), ((54, []), .inr (.inr (.inr (.inl (0, 40)))))]), (492, []), (496, [])], some (zaI)), [])]
def zc_2072 : zCt := (227, 1, [.inr (.inl 466), zaI], [], [], .branch 492 (.leaf (467, 112, 73, .inr 3, [((40, []), .inr (.inl 492)), ((52, []), .inr (.inl 496)), ((53, []), .inr (.inr (.inr (.inl (0, 40))))), ((54, []), .inr (.inr (.inr (.inl (0, 40)))))])) (.branch 496 (.leaf (493, 0, 69, .inr 2, [])) (.leaf (497, 0, 2829, .inr 2, []))), zw_2072, [], zp_2072.map (fun p => p.1))
def zu_2072 : List zCu := []
def zs_2072 : List zCt := [zc_2046]
theorem za_2072 : zwin zw_2072 zc_2072.2.2.2.2.2.1 = true := by decide +kernel
theorem z0_2072 : zst0 mi_P zw_2072 [] [] (fun d y as t en => zcal zw_2072 d y as t en zs_2072) zc_2072 zp_2072 zu_2072 270 = true := by decide +kernel
theorem zk_2072 : zu_2072.all (zck mi_P zc_2072.2.1 zw_2072 false [] [] (fun d y as t en => zcal zw_2072 d y as t en zs_2072) zc_2072.2.2.2.1.length zc_2072.2.2.2.1 zc_2072.2.2.2.2.2.1 zp_2072 zu_2072 270) = true := by decide +kernel
theorem zt_2072 {S : Nat × (Nat → Int32)} : zCtr mi_P S zTt zc_2072 := by
  have hc : ∀ c ∈ zs_2072, zCtr mi_P S zTt c := by
    intro c hc
    simp only [zs_2072, List.mem_cons, List.not_mem_nil, or_false] at hc
    rcases hc with rfl
    · exact zt_2046
  exact zCtr_of (Om := zTt) (ct := zc_2072) (ps := zp_2072) (fun _ _ _ _ => trivial) rfl hc za_2072 z0_2072 zk_2072
/-- LModel.dusk()Z -/
def zw_2073 : zW := .branch 492 (.leaf (467, [53, 54])) (.branch 496 (.leaf (493, [0])) (.leaf (497, [0])))
def zp_2073 : List (zPo × List (Nat ⊕ (Nat × zL))) := [(([], [], [(466, [((53, []), .inr (.inr (.inr (.inl (0, 40))))), ((54, []), .inr (.inr (.inr (.inl (0, 40)))))]), (492, []), (496, [])], some (.inr (.inr (.inr (.inl (0, 1)))))), [])]
def zc_2073 : zCt := (228, 1, [.inr (.inl 466)], [], [], .branch 492 (.leaf (467, 112, 73, .inr 3, [((40, []), .inr (.inl 492)), ((52, []), .inr (.inl 496)), ((53, []), .inr (.inr (.inr (.inl (0, 40))))), ((54, []), .inr (.inr (.inr (.inl (0, 40)))))])) (.branch 496 (.leaf (493, 0, 69, .inr 2, [])) (.leaf (497, 0, 2829, .inr 2, []))), zw_2073, [], zp_2073.map (fun p => p.1))
def zu_2073 : List zCu := []
def zs_2073 : List zCt := [zc_2046]
theorem za_2073 : zwin zw_2073 zc_2073.2.2.2.2.2.1 = true := by decide +kernel
theorem z0_2073 : zst0 mi_P zw_2073 [] [] (fun d y as t en => zcal zw_2073 d y as t en zs_2073) zc_2073 zp_2073 zu_2073 242 = true := by decide +kernel
theorem zk_2073 : zu_2073.all (zck mi_P zc_2073.2.1 zw_2073 false [] [] (fun d y as t en => zcal zw_2073 d y as t en zs_2073) zc_2073.2.2.2.1.length zc_2073.2.2.2.1 zc_2073.2.2.2.2.2.1 zp_2073 zu_2073 242) = true := by decide +kernel
theorem zt_2073 {S : Nat × (Nat → Int32)} : zCtr mi_P S zTt zc_2073 := by
  have hc : ∀ c ∈ zs_2073, zCtr mi_P S zTt c := by
    intro c hc
    simp only [zs_2073, List.mem_cons, List.not_mem_nil, or_false] at hc
    rcases hc with rfl
    · exact zt_2046
  exact zCtr_of (Om := zTt) (ct := zc_2073) (ps := zp_2073) (fun _ _ _ _ => trivial) rfl hc za_2073 z0_2073 zk_2073
/-- LModel.week()I -/
def zw_2074 : zW := .branch 492 (.leaf (467, [53, 54])) (.branch 496 (.leaf (493, [0])) (.leaf (497, [0])))
def zp_2074 : List (zPo × List (Nat ⊕ (Nat × zL))) := [(([], [], [(466, [((53, []), .inr (.inr (.inr (.inl (0, 40))))), ((54, []), .inr (.inr (.inr (.inl (0, 40)))))]), (492, []), (496, [])], some (zaI)), [])]
def zc_2074 : zCt := (229, 1, [.inr (.inl 466)], [], [], .branch 492 (.leaf (467, 112, 73, .inr 3, [((40, []), .inr (.inl 492)), ((52, []), .inr (.inl 496)), ((53, []), .inr (.inr (.inr (.inl (0, 40))))), ((54, []), .inr (.inr (.inr (.inl (0, 40)))))])) (.branch 496 (.leaf (493, 0, 69, .inr 2, [])) (.leaf (497, 0, 2829, .inr 2, []))), zw_2074, [], zp_2074.map (fun p => p.1))
def zu_2074 : List zCu := []
def zs_2074 : List zCt := [zc_2046, zc_2047]
theorem za_2074 : zwin zw_2074 zc_2074.2.2.2.2.2.1 = true := by decide +kernel
theorem z0_2074 : zst0 mi_P zw_2074 [] [] (fun d y as t en => zcal zw_2074 d y as t en zs_2074) zc_2074 zp_2074 zu_2074 230 = true := by decide +kernel
theorem zk_2074 : zu_2074.all (zck mi_P zc_2074.2.1 zw_2074 false [] [] (fun d y as t en => zcal zw_2074 d y as t en zs_2074) zc_2074.2.2.2.1.length zc_2074.2.2.2.1 zc_2074.2.2.2.2.2.1 zp_2074 zu_2074 230) = true := by decide +kernel
theorem zt_2074 {S : Nat × (Nat → Int32)} : zCtr mi_P S zTt zc_2074 := by
  have hc : ∀ c ∈ zs_2074, zCtr mi_P S zTt c := by
    intro c hc
    simp only [zs_2074, List.mem_cons, List.not_mem_nil, or_false] at hc
    rcases hc with rfl | rfl
    · exact zt_2046
    · exact zt_2047
  exact zCtr_of (Om := zTt) (ct := zc_2074) (ps := zp_2074) (fun _ _ _ _ => trivial) rfl hc za_2074 z0_2074 zk_2074
/-- LModel.board(I)I -/
def zw_2089 : zW := .leaf (0, [])
def zp_2089 : List (zPo × List (Nat ⊕ (Nat × zL))) := [(([], [], [], some (zaI)), [])]
def zc_2089 : zCt := (265, 1, [.inr (.inl 466), zaI], [], [], .branch 492 (.leaf (467, 112, 73, .inr 3, [((40, []), .inr (.inl 492))])) (.leaf (493, 0, 69, .inr 2, [])), zw_2089, [], zp_2089.map (fun p => p.1))
def zu_2089 : List zCu := []
def zs_2089 : List zCt := []
theorem za_2089 : zwin zw_2089 zc_2089.2.2.2.2.2.1 = true := by decide +kernel
theorem z0_2089 : zst0 mi_P zw_2089 [] [] (fun d y as t en => zcal zw_2089 d y as t en zs_2089) zc_2089 zp_2089 zu_2089 268 = true := by decide +kernel
theorem zk_2089 : zu_2089.all (zck mi_P zc_2089.2.1 zw_2089 false [] [] (fun d y as t en => zcal zw_2089 d y as t en zs_2089) zc_2089.2.2.2.1.length zc_2089.2.2.2.1 zc_2089.2.2.2.2.2.1 zp_2089 zu_2089 268) = true := by decide +kernel
theorem zt_2089 {S : Nat × (Nat → Int32)} : zCtr mi_P S zTt zc_2089 := by
  have hc : ∀ c ∈ zs_2089, zCtr mi_P S zTt c := fun c hc => by cases hc
  exact zCtr_of (Om := zTt) (ct := zc_2089) (ps := zp_2089) (fun _ _ _ _ => trivial) rfl hc za_2089 z0_2089 zk_2089
/-- LModel.lies(I)I -/
def zw_2090 : zW := .leaf (0, [])
def zp_2090 : List (zPo × List (Nat ⊕ (Nat × zL))) := [(([], [], [], some (zaI)), [])]
def zc_2090 : zCt := (258, 1, [.inr (.inl 466), zaI], [], [], .branch 500 (.leaf (467, 112, 73, .inr 3, [((58, []), .inr (.inl 500)), ((59, []), .inr (.inr (.inr (.inl (0, 5)))))])) (.leaf (501, 0, 5, .inl ((-2147483648), 2147483647), [])), zw_2090, [], zp_2090.map (fun p => p.1))
def zu_2090 : List zCu := []
def zs_2090 : List zCt := []
theorem za_2090 : zwin zw_2090 zc_2090.2.2.2.2.2.1 = true := by decide +kernel
theorem z0_2090 : zst0 mi_P zw_2090 [] [] (fun d y as t en => zcal zw_2090 d y as t en zs_2090) zc_2090 zp_2090 zu_2090 260 = true := by decide +kernel
theorem zk_2090 : zu_2090.all (zck mi_P zc_2090.2.1 zw_2090 false [] [] (fun d y as t en => zcal zw_2090 d y as t en zs_2090) zc_2090.2.2.2.1.length zc_2090.2.2.2.1 zc_2090.2.2.2.2.2.1 zp_2090 zu_2090 260) = true := by decide +kernel
theorem zt_2090 {S : Nat × (Nat → Int32)} : zCtr mi_P S zTt zc_2090 := by
  have hc : ∀ c ∈ zs_2090, zCtr mi_P S zTt c := fun c hc => by cases hc
  exact zCtr_of (Om := zTt) (ct := zc_2090) (ps := zp_2090) (fun _ _ _ _ => trivial) rfl hc za_2090 z0_2090 zk_2090
/-- LModel.count(IIII)I -/
def zw_2091 : zW := .branch 503 (.branch 501 (.leaf (467, [66])) (.branch 502 (.leaf (502, [0])) (.leaf (503, [0])))) (.branch 505 (.branch 504 (.leaf (504, [0])) (.leaf (505, [0]))) (.branch 506 (.leaf (506, [0])) (.leaf (507, [0]))))
def zp_2091 : List (zPo × List (Nat ⊕ (Nat × zL))) := [(([], [], [(466, [((66, []), .inr (.inr (.inr (.inl (0, 30)))))]), (501, []), (502, []), (503, []), (504, []), (505, []), (506, [])], some (.inr (.inr (.inr (.inl ((-1), 29)))))), [])]
def zc_2091 : zCt := (266, 2, [.inr (.inl 466), zaI, zaI, zaI, zaI], [], [], .branch 503 (.branch 501 (.branch 476 (.leaf (467, 112, 73, .inr 3, [((18, []), .inr (.inl 476)), ((34, []), .inr (.inr (.inr (.inl (0, 1))))), ((60, []), .inr (.inl 501)), ((61, []), .inr (.inl 502)), ((62, []), .inr (.inl 503)), ((63, []), .inr (.inl 504)), ((64, []), .inr (.inl 505)), ((65, []), .inr (.inl 506)), ((66, []), .inr (.inr (.inr (.inl (0, 30))))), ((67, []), .inr (.inr (.inr (.inl (0, 100000)))))])) (.leaf (477, 0, 2, .inl (0, 4), []))) (.branch 502 (.leaf (502, 0, 30, .inl ((-2147483648), 2147483647), [])) (.leaf (503, 0, 30, .inl ((-2147483648), 2147483647), [])))) (.branch 505 (.branch 504 (.leaf (504, 0, 30, .inl ((-2147483648), 2147483647), [])) (.leaf (505, 0, 30, .inl ((-2147483648), 2147483647), []))) (.branch 506 (.leaf (506, 0, 30, .inl ((-2147483648), 2147483647), [])) (.leaf (507, 0, 30, .inl ((-2147483648), 2147483647), [])))), zw_2091, [], zp_2091.map (fun p => p.1))
def zu_2091 : List zCu := []
def zs_2091 : List zCt := []
theorem za_2091 : zwin zw_2091 zc_2091.2.2.2.2.2.1 = true := by decide +kernel
theorem z0_2091 : zst0 mi_P zw_2091 [] [] (fun d y as t en => zcal zw_2091 d y as t en zs_2091) zc_2091 zp_2091 zu_2091 504 = true := by decide +kernel
theorem zk_2091 : zu_2091.all (zck mi_P zc_2091.2.1 zw_2091 false [] [] (fun d y as t en => zcal zw_2091 d y as t en zs_2091) zc_2091.2.2.2.1.length zc_2091.2.2.2.1 zc_2091.2.2.2.2.2.1 zp_2091 zu_2091 504) = true := by decide +kernel
theorem zt_2091 {S : Nat × (Nat → Int32)} : zCtr mi_P S zTt zc_2091 := by
  have hc : ∀ c ∈ zs_2091, zCtr mi_P S zTt c := fun c hc => by cases hc
  exact zCtr_of (Om := zTt) (ct := zc_2091) (ps := zp_2091) (fun _ _ _ _ => trivial) rfl hc za_2091 z0_2091 zk_2091
/-- LModel.untell(I)Z -/
def zw_2092 : zW := .leaf (507, [0])
def zp_2092 : List (zPo × List (Nat ⊕ (Nat × zL))) := [(([], [], [(506, [])], some (.inr (.inr (.inr (.inl (0, 1)))))), [])]
def zc_2092 : zCt := (267, 1, [.inr (.inl 466), zaI], [], [], .branch 506 (.leaf (467, 112, 73, .inr 3, [((65, []), .inr (.inl 506)), ((66, []), .inr (.inr (.inr (.inl (0, 30))))), ((67, []), .inr (.inr (.inr (.inl (0, 100000)))))])) (.leaf (507, 0, 30, .inl ((-2147483648), 2147483647), [])), zw_2092, [], zp_2092.map (fun p => p.1))
def zu_2092 : List zCu := []
def zs_2092 : List zCt := []
theorem za_2092 : zwin zw_2092 zc_2092.2.2.2.2.2.1 = true := by decide +kernel
theorem z0_2092 : zst0 mi_P zw_2092 [] [] (fun d y as t en => zcal zw_2092 d y as t en zs_2092) zc_2092 zp_2092 zu_2092 276 = true := by decide +kernel
theorem zk_2092 : zu_2092.all (zck mi_P zc_2092.2.1 zw_2092 false [] [] (fun d y as t en => zcal zw_2092 d y as t en zs_2092) zc_2092.2.2.2.1.length zc_2092.2.2.2.1 zc_2092.2.2.2.2.2.1 zp_2092 zu_2092 276) = true := by decide +kernel
theorem zt_2092 {S : Nat × (Nat → Int32)} : zCtr mi_P S zTt zc_2092 := by
  have hc : ∀ c ∈ zs_2092, zCtr mi_P S zTt c := fun c hc => by cases hc
  exact zCtr_of (Om := zTt) (ct := zc_2092) (ps := zp_2092) (fun _ _ _ _ => trivial) rfl hc za_2092 z0_2092 zk_2092
/-- LModel.span(III)I -/
def zw_2093 : zW := .leaf (467, [68, 69, 70])
def zp_2093 : List (zPo × List (Nat ⊕ (Nat × zL))) := [(([], [], [(466, [((68, []), zaI), ((69, []), zaI), ((70, []), zaI)])], some (zaI)), [])]
def zc_2093 : zCt := (269, 2, [.inr (.inl 466), zaI, zaI, zaI], [], [], .branch 503 (.branch 501 (.branch 476 (.leaf (467, 112, 73, .inr 3, [((18, []), .inr (.inl 476)), ((34, []), .inr (.inr (.inr (.inl (0, 1))))), ((60, []), .inr (.inl 501)), ((61, []), .inr (.inl 502)), ((62, []), .inr (.inl 503)), ((63, []), .inr (.inl 504)), ((64, []), .inr (.inl 505)), ((65, []), .inr (.inl 506)), ((66, []), .inr (.inr (.inr (.inl (0, 30))))), ((68, []), zaI), ((69, []), zaI), ((70, []), zaI)])) (.leaf (477, 0, 2, .inl (0, 4), []))) (.branch 502 (.leaf (502, 0, 30, .inl ((-2147483648), 2147483647), [])) (.leaf (503, 0, 30, .inl ((-2147483648), 2147483647), [])))) (.branch 505 (.branch 504 (.leaf (504, 0, 30, .inl ((-2147483648), 2147483647), [])) (.leaf (505, 0, 30, .inl ((-2147483648), 2147483647), []))) (.branch 506 (.leaf (506, 0, 30, .inl ((-2147483648), 2147483647), [])) (.leaf (507, 0, 30, .inl ((-2147483648), 2147483647), [])))), zw_2093, [], zp_2093.map (fun p => p.1))
def zu_2093 : List zCu := []
def zs_2093 : List zCt := [zc_2058]
theorem za_2093 : zwin zw_2093 zc_2093.2.2.2.2.2.1 = true := by decide +kernel
theorem z0_2093 : zst0 mi_P zw_2093 [] [] (fun d y as t en => zcal zw_2093 d y as t en zs_2093) zc_2093 zp_2093 zu_2093 382 = true := by decide +kernel
theorem zk_2093 : zu_2093.all (zck mi_P zc_2093.2.1 zw_2093 false [] [] (fun d y as t en => zcal zw_2093 d y as t en zs_2093) zc_2093.2.2.2.1.length zc_2093.2.2.2.1 zc_2093.2.2.2.2.2.1 zp_2093 zu_2093 382) = true := by decide +kernel
theorem zt_2093 {S : Nat × (Nat → Int32)} : zCtr mi_P S zTt zc_2093 := by
  have hc : ∀ c ∈ zs_2093, zCtr mi_P S zTt c := by
    intro c hc
    simp only [zs_2093, List.mem_cons, List.not_mem_nil, or_false] at hc
    rcases hc with rfl
    · exact zt_2058
  exact zCtr_of (Om := zTt) (ct := zc_2093) (ps := zp_2093) (fun _ _ _ _ => trivial) rfl hc za_2093 z0_2093 zk_2093
/-- LModel.strangers(II)I -/
def zw_2094 : zW := .leaf (467, [68, 69, 70])
def zp_2094 : List (zPo × List (Nat ⊕ (Nat × zL))) := [(([], [], [(466, [((68, []), zaI), ((69, []), zaI), ((70, []), zaI)])], some (zaI)), [])]
def zc_2094 : zCt := (271, 2, [.inr (.inl 466), zaI, zaI], [], [], .branch 503 (.branch 501 (.branch 476 (.leaf (467, 112, 73, .inr 3, [((18, []), .inr (.inl 476)), ((34, []), .inr (.inr (.inr (.inl (0, 1))))), ((60, []), .inr (.inl 501)), ((61, []), .inr (.inl 502)), ((62, []), .inr (.inl 503)), ((63, []), .inr (.inl 504)), ((64, []), .inr (.inl 505)), ((65, []), .inr (.inl 506)), ((66, []), .inr (.inr (.inr (.inl (0, 30))))), ((68, []), zaI), ((69, []), zaI), ((70, []), zaI)])) (.leaf (477, 0, 2, .inl (0, 4), []))) (.branch 502 (.leaf (502, 0, 30, .inl ((-2147483648), 2147483647), [])) (.leaf (503, 0, 30, .inl ((-2147483648), 2147483647), [])))) (.branch 505 (.branch 504 (.leaf (504, 0, 30, .inl ((-2147483648), 2147483647), [])) (.leaf (505, 0, 30, .inl ((-2147483648), 2147483647), []))) (.branch 506 (.leaf (506, 0, 30, .inl ((-2147483648), 2147483647), [])) (.leaf (507, 0, 30, .inl ((-2147483648), 2147483647), [])))), zw_2094, [], zp_2094.map (fun p => p.1))
def zu_2094 : List zCu := []
def zs_2094 : List zCt := [zc_2058]
theorem za_2094 : zwin zw_2094 zc_2094.2.2.2.2.2.1 = true := by decide +kernel
theorem z0_2094 : zst0 mi_P zw_2094 [] [] (fun d y as t en => zcal zw_2094 d y as t en zs_2094) zc_2094 zp_2094 zu_2094 280 = true := by decide +kernel
theorem zk_2094 : zu_2094.all (zck mi_P zc_2094.2.1 zw_2094 false [] [] (fun d y as t en => zcal zw_2094 d y as t en zs_2094) zc_2094.2.2.2.1.length zc_2094.2.2.2.1 zc_2094.2.2.2.2.2.1 zp_2094 zu_2094 280) = true := by decide +kernel
theorem zt_2094 {S : Nat × (Nat → Int32)} : zCtr mi_P S zTt zc_2094 := by
  have hc : ∀ c ∈ zs_2094, zCtr mi_P S zTt c := by
    intro c hc
    simp only [zs_2094, List.mem_cons, List.not_mem_nil, or_false] at hc
    rcases hc with rfl
    · exact zt_2058
  exact zCtr_of (Om := zTt) (ct := zc_2094) (ps := zp_2094) (fun _ _ _ _ => trivial) rfl hc za_2094 z0_2094 zk_2094
/-- LModel.lost(II)I -/
def zw_2095 : zW := .leaf (467, [68, 69, 70])
def zp_2095 : List (zPo × List (Nat ⊕ (Nat × zL))) := [(([], [], [(466, [((68, []), zaI), ((69, []), zaI), ((70, []), zaI)])], some (.inr (.inr (.inr (.inl ((-1), 2147483647)))))), [])]
def zc_2095 : zCt := (272, 2, [.inr (.inl 466), zaI, zaI], [], [], .branch 502 (.branch 479 (.branch 476 (.leaf (467, 112, 73, .inr 3, [((18, []), .inr (.inl 476)), ((21, []), .inr (.inl 479)), ((34, []), .inr (.inr (.inr (.inl (0, 1))))), ((60, []), .inr (.inl 501)), ((61, []), .inr (.inl 502)), ((62, []), .inr (.inl 503)), ((63, []), .inr (.inl 504)), ((64, []), .inr (.inl 505)), ((65, []), .inr (.inl 506)), ((66, []), .inr (.inr (.inr (.inl (0, 30))))), ((68, []), zaI), ((69, []), zaI), ((70, []), zaI)])) (.leaf (477, 0, 2, .inl (0, 4), []))) (.branch 501 (.leaf (480, 0, 8, .inl ((-2147483648), 2147483647), [])) (.leaf (502, 0, 30, .inl ((-2147483648), 2147483647), [])))) (.branch 504 (.branch 503 (.leaf (503, 0, 30, .inl ((-2147483648), 2147483647), [])) (.leaf (504, 0, 30, .inl ((-2147483648), 2147483647), []))) (.branch 505 (.leaf (505, 0, 30, .inl ((-2147483648), 2147483647), [])) (.branch 506 (.leaf (506, 0, 30, .inl ((-2147483648), 2147483647), [])) (.leaf (507, 0, 30, .inl ((-2147483648), 2147483647), []))))), zw_2095, [], zp_2095.map (fun p => p.1))
def zu_2095 : List zCu := []
def zs_2095 : List zCt := [zc_2058]
theorem za_2095 : zwin zw_2095 zc_2095.2.2.2.2.2.1 = true := by decide +kernel
theorem z0_2095 : zst0 mi_P zw_2095 [] [] (fun d y as t en => zcal zw_2095 d y as t en zs_2095) zc_2095 zp_2095 zu_2095 426 = true := by decide +kernel
theorem zk_2095 : zu_2095.all (zck mi_P zc_2095.2.1 zw_2095 false [] [] (fun d y as t en => zcal zw_2095 d y as t en zs_2095) zc_2095.2.2.2.1.length zc_2095.2.2.2.1 zc_2095.2.2.2.2.2.1 zp_2095 zu_2095 426) = true := by decide +kernel
theorem zt_2095 {S : Nat × (Nat → Int32)} : zCtr mi_P S zTt zc_2095 := by
  have hc : ∀ c ∈ zs_2095, zCtr mi_P S zTt c := by
    intro c hc
    simp only [zs_2095, List.mem_cons, List.not_mem_nil, or_false] at hc
    rcases hc with rfl
    · exact zt_2058
  exact zCtr_of (Om := zTt) (ct := zc_2095) (ps := zp_2095) (fun _ _ _ _ => trivial) rfl hc za_2095 z0_2095 zk_2095
