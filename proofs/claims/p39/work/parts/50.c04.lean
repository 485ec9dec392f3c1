/-- L$Course.oddsOf(I)I -/
def zw_91 : zW := .branch 374 (.leaf (372, [0])) (.leaf (375, [0]))
def zp_91 : List (zPo × List (Nat ⊕ (Nat × zL))) := [(([], [], [(371, []), (374, [])], some (.inr (.inr (.inr (.inl (0, 100)))))), [])]
def zc_91 : zCt := (61, 3, [.inr (.inl 379), .inr (.inr (.inr (.inl (0, 3))))], [], [], .branch 376 (.branch 372 (.branch 370 (.leaf (367, 102, 11, .inr 3, [((1, []), .inr (.inl 370)), ((8, []), .inr (.inl 376))])) (.branch 371 (.leaf (371, 104, 7, .inr 3, [((0, []), .inr (.inl 371)), ((4, []), .inr (.inl 372)), ((5, []), .inr (.inl 373)), ((6, []), .inr (.inl 374))])) (.leaf (372, 0, 6, .inl ((-2147483648), 2147483647), [])))) (.branch 373 (.leaf (373, 0, 5, .inl (0, 540), [])) (.branch 374 (.leaf (374, 0, 540, .inr 1, [])) (.leaf (375, 0, 30, .inl ((-2147483648), 2147483647), []))))) (.branch 385 (.branch 379 (.leaf (377, 0, 12, .inl ((-2147483648), 2147483647), [])) (.branch 383 (.leaf (380, 109, 9, .inr 3, [((0, []), .inr (.inl 366)), ((2, []), .inr (.inl 383))])) (.leaf (384, 107, 14, .inr 3, [((1, []), zaI), ((4, []), zaI), ((5, []), .inr (.inr (.inr (.inl (0, 1))))), ((8, []), .inr (.inl 385)), ((11, []), .inr (.inl 388)), ((12, []), .inr (.inl 389)), ((13, []), .inr (.inl 390))])))) (.branch 389 (.branch 388 (.leaf (386, 0, 2, .inl ((-2147483648), 2147483647), [])) (.leaf (389, 0, 3, .inl (0, 12), []))) (.branch 390 (.leaf (390, 0, 36, .inl (0, 11), [])) (.leaf (391, 0, 16, .inl ((-2147483648), 2147483647), []))))), zw_91, [], zp_91.map (fun p => p.1))
def zu_91 : List zCu := []
def zs_91 : List zCt := [zc_81, zc_71]
theorem za_91 : zwin zw_91 zc_91.2.2.2.2.2.1 = true := by decide +kernel
theorem z0_91 : zst0 mi_P zw_91 [] [] (fun d y as t en => zcal zw_91 d y as t en zs_91) zc_91 zp_91 zu_91 832 = true := by decide +kernel
theorem zk_91 : zu_91.all (zck mi_P zc_91.2.1 zw_91 false [] [] (fun d y as t en => zcal zw_91 d y as t en zs_91) zc_91.2.2.2.1.length zc_91.2.2.2.1 zc_91.2.2.2.2.2.1 zp_91 zu_91 832) = true := by decide +kernel
theorem zt_91 {S : Nat × (Nat → Int32)} : zCtr mi_P S zTt zc_91 := by
  have hc : ∀ c ∈ zs_91, zCtr mi_P S zTt c := by
    intro c hc
    simp only [zs_91, List.mem_cons, List.not_mem_nil, or_false] at hc
    rcases hc with rfl | rfl
    · exact zt_81
    · exact zt_71
  exact zCtr_of (Om := zTt) (ct := zc_91) (ps := zp_91) (fun _ _ _ _ => trivial) rfl hc za_91 z0_91 zk_91
/-- L$Now.draw()I -/
def zw_92 : zW := .leaf (404, [2])
def zp_92 : List (zPo × List (Nat ⊕ (Nat × zL))) := [(([], [], [(403, [((2, []), zaI)])], some (.inr (.inr (.inr (.inl ((-99), 99)))))), [])]
def zc_92 : zCt := (84, 0, [.inr (.inl 403)], [], [], .leaf (404, 107, 14, .inr 3, [((2, []), zaI)]), zw_92, [], zp_92.map (fun p => p.1))
def zu_92 : List zCu := []
def zs_92 : List zCt := []
theorem za_92 : zwin zw_92 zc_92.2.2.2.2.2.1 = true := by decide +kernel
theorem z0_92 : zst0 mi_P zw_92 [] [] (fun d y as t en => zcal zw_92 d y as t en zs_92) zc_92 zp_92 zu_92 228 = true := by decide +kernel
theorem zk_92 : zu_92.all (zck mi_P zc_92.2.1 zw_92 false [] [] (fun d y as t en => zcal zw_92 d y as t en zs_92) zc_92.2.2.2.1.length zc_92.2.2.2.1 zc_92.2.2.2.2.2.1 zp_92 zu_92 228) = true := by decide +kernel
theorem zt_92 {S : Nat × (Nat → Int32)} : zCtr mi_P S zTt zc_92 := by
  have hc : ∀ c ∈ zs_92, zCtr mi_P S zTt c := fun c hc => by cases hc
  exact zCtr_of (Om := zTt) (ct := zc_92) (ps := zp_92) (fun _ _ _ _ => trivial) rfl hc za_92 z0_92 zk_92
/-- L$Now.leaveRow(II)V -/
def zw_93 : zW := .branch 409 (.leaf (409, [0])) (.leaf (410, [0]))
def zp_93 : List (zPo × List (Nat ⊕ (Nat × zL))) := [(([], [], [(408, []), (409, [])], none), [])]
def zc_93 : zCt := (86, 0, [.inr (.inl 403), .inl (2, []), zaI], [], [], .branch 408 (.leaf (404, 107, 14, .inr 3, [((11, []), .inr (.inl 408)), ((12, []), .inr (.inl 409))])) (.branch 409 (.leaf (409, 0, 3, .inl (0, 12), [])) (.leaf (410, 0, 36, .inl (0, 11), []))), zw_93, [], zp_93.map (fun p => p.1))
def zu_93 : List zCu := [(([(86, 8, [(5, .inl (0, [(1, 1)])), (4, .inl (24, [])), (3, .inl (0, [(2, 1)])), (0, .inr (.inl 403)), (1, .inl (2, [])), (2, .inl (0, [(0, 1)]))], [])], .branch 408 (.leaf (404, 107, 14, .inr 3, [((11, []), .inr (.inl 408)), ((12, []), .inr (.inl 409))])) (.branch 409 (.leaf (409, 0, 3, .inl (0, 12), [])) (.leaf (410, 0, 36, .inl (0, 11), []))), [((-2147483648), 2147483647), (0, 12), (0, 12)], [(0, [(1, (-1)), (2, 1)])], []), [.inl (0, 2), .inl (0, 5), .inl (0, 3)], (12, [(1, (-1))]))]
def zs_93 : List zCt := []
theorem za_93 : zwin zw_93 zc_93.2.2.2.2.2.1 = true := by decide +kernel
theorem z0_93 : zst0 mi_P zw_93 [] [] (fun d y as t en => zcal zw_93 d y as t en zs_93) zc_93 zp_93 zu_93 272 = true := by decide +kernel
theorem zk_93 : zu_93.all (zck mi_P zc_93.2.1 zw_93 false [] [] (fun d y as t en => zcal zw_93 d y as t en zs_93) zc_93.2.2.2.1.length zc_93.2.2.2.1 zc_93.2.2.2.2.2.1 zp_93 zu_93 272) = true := by decide +kernel
theorem zt_93 {S : Nat × (Nat → Int32)} : zCtr mi_P S zTt zc_93 := by
  have hc : ∀ c ∈ zs_93, zCtr mi_P S zTt c := fun c hc => by cases hc
  exact zCtr_of (Om := zTt) (ct := zc_93) (ps := zp_93) (fun _ _ _ _ => trivial) rfl hc za_93 z0_93 zk_93
/-- L$Now.leaveRow(II)V -/
def zw_94 : zW := .branch 409 (.leaf (409, [0])) (.leaf (410, [0]))
def zp_94 : List (zPo × List (Nat ⊕ (Nat × zL))) := [(([], [], [(408, []), (409, [])], none), [])]
def zc_94 : zCt := (86, 0, [.inr (.inl 403), .inl (0, []), zaI], [], [], .branch 408 (.leaf (404, 107, 14, .inr 3, [((11, []), .inr (.inl 408)), ((12, []), .inr (.inl 409))])) (.branch 409 (.leaf (409, 0, 3, .inl (0, 12), [])) (.leaf (410, 0, 36, .inl (0, 11), []))), zw_94, [], zp_94.map (fun p => p.1))
def zu_94 : List zCu := [(([(86, 8, [(5, .inl (0, [(1, 1)])), (4, .inl (0, [])), (3, .inl (0, [(2, 1)])), (0, .inr (.inl 403)), (1, .inl (0, [])), (2, .inl (0, [(0, 1)]))], [])], .branch 408 (.leaf (404, 107, 14, .inr 3, [((11, []), .inr (.inl 408)), ((12, []), .inr (.inl 409))])) (.branch 409 (.leaf (409, 0, 3, .inl (0, 12), [])) (.leaf (410, 0, 36, .inl (0, 11), []))), [((-2147483648), 2147483647), (0, 12), (0, 12)], [(0, [(1, (-1)), (2, 1)])], []), [.inl (0, 2), .inl (0, 5), .inl (0, 3)], (12, [(1, (-1))]))]
def zs_94 : List zCt := []
theorem za_94 : zwin zw_94 zc_94.2.2.2.2.2.1 = true := by decide +kernel
theorem z0_94 : zst0 mi_P zw_94 [] [] (fun d y as t en => zcal zw_94 d y as t en zs_94) zc_94 zp_94 zu_94 272 = true := by decide +kernel
theorem zk_94 : zu_94.all (zck mi_P zc_94.2.1 zw_94 false [] [] (fun d y as t en => zcal zw_94 d y as t en zs_94) zc_94.2.2.2.1.length zc_94.2.2.2.1 zc_94.2.2.2.2.2.1 zp_94 zu_94 272) = true := by decide +kernel
theorem zt_94 {S : Nat × (Nat → Int32)} : zCtr mi_P S zTt zc_94 := by
  have hc : ∀ c ∈ zs_94, zCtr mi_P S zTt c := fun c hc => by cases hc
  exact zCtr_of (Om := zTt) (ct := zc_94) (ps := zp_94) (fun _ _ _ _ => trivial) rfl hc za_94 z0_94 zk_94
/-- L$Now.leaveRow(II)V -/
def zw_95 : zW := .branch 409 (.leaf (409, [0])) (.leaf (410, [0]))
def zp_95 : List (zPo × List (Nat ⊕ (Nat × zL))) := [(([], [], [(408, []), (409, [])], none), [])]
def zc_95 : zCt := (86, 0, [.inr (.inl 403), .inl (1, []), zaI], [], [], .branch 408 (.leaf (404, 107, 14, .inr 3, [((11, []), .inr (.inl 408)), ((12, []), .inr (.inl 409))])) (.branch 409 (.leaf (409, 0, 3, .inl (0, 12), [])) (.leaf (410, 0, 36, .inl (0, 11), []))), zw_95, [], zp_95.map (fun p => p.1))
def zu_95 : List zCu := [(([(86, 8, [(5, .inl (0, [(1, 1)])), (4, .inl (12, [])), (3, .inl (0, [(2, 1)])), (0, .inr (.inl 403)), (1, .inl (1, [])), (2, .inl (0, [(0, 1)]))], [])], .branch 408 (.leaf (404, 107, 14, .inr 3, [((11, []), .inr (.inl 408)), ((12, []), .inr (.inl 409))])) (.branch 409 (.leaf (409, 0, 3, .inl (0, 12), [])) (.leaf (410, 0, 36, .inl (0, 11), []))), [((-2147483648), 2147483647), (0, 12), (0, 12)], [(0, [(1, (-1)), (2, 1)])], []), [.inl (0, 2), .inl (0, 5), .inl (0, 3)], (12, [(1, (-1))]))]
def zs_95 : List zCt := []
theorem za_95 : zwin zw_95 zc_95.2.2.2.2.2.1 = true := by decide +kernel
theorem z0_95 : zst0 mi_P zw_95 [] [] (fun d y as t en => zcal zw_95 d y as t en zs_95) zc_95 zp_95 zu_95 272 = true := by decide +kernel
theorem zk_95 : zu_95.all (zck mi_P zc_95.2.1 zw_95 false [] [] (fun d y as t en => zcal zw_95 d y as t en zs_95) zc_95.2.2.2.1.length zc_95.2.2.2.1 zc_95.2.2.2.2.2.1 zp_95 zu_95 272) = true := by decide +kernel
theorem zt_95 {S : Nat × (Nat → Int32)} : zCtr mi_P S zTt zc_95 := by
  have hc : ∀ c ∈ zs_95, zCtr mi_P S zTt c := fun c hc => by cases hc
  exact zCtr_of (Om := zTt) (ct := zc_95) (ps := zp_95) (fun _ _ _ _ => trivial) rfl hc za_95 z0_95 zk_95
/-- L$Now.noteOnBoard(I)V -/
def zw_96 : zW := .branch 404 (.leaf (404, [6])) (.leaf (405, [0]))
def zp_96 : List (zPo × List (Nat ⊕ (Nat × zL))) := [(([], [], [(403, [((6, []), .inr (.inr (.inr (.inl (0, 20)))))]), (404, [])], none), [])]
def zc_96 : zCt := (85, 0, [.inr (.inl 403), zaI], [], [], .branch 404 (.leaf (404, 107, 14, .inr 3, [((6, []), .inr (.inr (.inr (.inl (0, 20))))), ((7, []), .inr (.inl 404))])) (.leaf (405, 0, 20, .inl ((-2147483648), 2147483647), [])), zw_96, [], zp_96.map (fun p => p.1))
def zu_96 : List zCu := [(([(85, 2, [(2, .inl (0, [(1, 1)])), (0, .inr (.inl 403)), (1, .inl (0, [(0, 1)]))], [])], .branch 404 (.leaf (404, 107, 14, .inr 3, [((6, []), .inr (.inr (.inr (.inl (0, 20))))), ((7, []), .inr (.inl 404))])) (.leaf (405, 0, 20, .inl ((-2147483648), 2147483647), [])), [((-2147483648), 2147483647), (0, 19)], [], []), [.inl (0, 1), .inl (0, 2)], (0, [(1, 1)]))]
def zs_96 : List zCt := []
theorem za_96 : zwin zw_96 zc_96.2.2.2.2.2.1 = true := by decide +kernel
theorem z0_96 : zst0 mi_P zw_96 [] [] (fun d y as t en => zcal zw_96 d y as t en zs_96) zc_96 zp_96 zu_96 254 = true := by decide +kernel
theorem zk_96 : zu_96.all (zck mi_P zc_96.2.1 zw_96 false [] [] (fun d y as t en => zcal zw_96 d y as t en zs_96) zc_96.2.2.2.1.length zc_96.2.2.2.1 zc_96.2.2.2.2.2.1 zp_96 zu_96 254) = true := by decide +kernel
theorem zt_96 {S : Nat × (Nat → Int32)} : zCtr mi_P S zTt zc_96 := by
  have hc : ∀ c ∈ zs_96, zCtr mi_P S zTt c := fun c hc => by cases hc
  exact zCtr_of (Om := zTt) (ct := zc_96) (ps := zp_96) (fun _ _ _ _ => trivial) rfl hc za_96 z0_96 zk_96
/-- L$Course.come()V -/
def zw_97 : zW := .branch 408 (.leaf (407, [0])) (.branch 409 (.leaf (409, [0])) (.leaf (410, [0])))
def zp_97 : List (zPo × List (Nat ⊕ (Nat × zL))) := [(([], [], [(406, []), (408, []), (409, [])], none), [])]
def zc_97 : zCt := (79, 1, [.inr (.inl 399)], [], [], .branch 402 (.branch 399 (.branch 378 (.leaf (367, 102, 11, .inr 3, [((7, []), .inr (.inr (.inr (.inl (0, 12))))), ((10, []), .inr (.inl 378))])) (.leaf (379, 0, 12, .inl ((-2147483648), 2147483647), []))) (.branch 400 (.leaf (400, 109, 9, .inr 3, [((0, []), .inr (.inl 366)), ((1, []), .inr (.inl 400)), ((2, []), .inr (.inl 403))])) (.leaf (401, 103, 5, .inr 3, [((4, []), .inr (.inl 402))])))) (.branch 406 (.branch 403 (.leaf (403, 0, 12, .inl ((-2147483648), 2147483647), [])) (.leaf (404, 107, 14, .inr 3, [((0, []), zaI), ((9, []), .inr (.inl 406)), ((11, []), .inr (.inl 408)), ((12, []), .inr (.inl 409))]))) (.branch 408 (.leaf (407, 0, 12, .inl ((-2147483648), 2147483647), [])) (.branch 409 (.leaf (409, 0, 3, .inl (0, 12), [])) (.leaf (410, 0, 36, .inl (0, 11), []))))), zw_97, [], zp_97.map (fun p => p.1))
def zu_97 : List zCu := [(([(79, 2, [(1, .inl (0, [(0, 1)])), (0, .inr (.inl 399))], [])], .branch 402 (.branch 399 (.branch 378 (.leaf (367, 102, 11, .inr 3, [((7, []), .inr (.inr (.inr (.inl (0, 12))))), ((10, []), .inr (.inl 378))])) (.leaf (379, 0, 12, .inl ((-2147483648), 2147483647), []))) (.branch 400 (.leaf (400, 109, 9, .inr 3, [((0, []), .inr (.inl 366)), ((1, []), .inr (.inl 400)), ((2, []), .inr (.inl 403))])) (.leaf (401, 103, 5, .inr 3, [((4, []), .inr (.inl 402))])))) (.branch 406 (.branch 403 (.leaf (403, 0, 12, .inl ((-2147483648), 2147483647), [])) (.leaf (404, 107, 14, .inr 3, [((0, []), zaI), ((9, []), .inr (.inl 406)), ((11, []), .inr (.inl 408)), ((12, []), .inr (.inl 409))]))) (.branch 408 (.leaf (407, 0, 12, .inl ((-2147483648), 2147483647), [])) (.branch 409 (.leaf (409, 0, 3, .inl (0, 12), [])) (.leaf (410, 0, 36, .inl (0, 11), []))))), [(0, 12)], [], []), [.inl (0, 1)], (12, [(0, (-1))]))]
def zs_97 : List zCt := []
theorem za_97 : zwin zw_97 zc_97.2.2.2.2.2.1 = true := by decide +kernel
theorem z0_97 : zst0 mi_P zw_97 [] [] (fun d y as t en => zcal zw_97 d y as t en zs_97) zc_97 zp_97 zu_97 420 = true := by decide +kernel
theorem zk_97 : zu_97.all (zck mi_P zc_97.2.1 zw_97 false [] [] (fun d y as t en => zcal zw_97 d y as t en zs_97) zc_97.2.2.2.1.length zc_97.2.2.2.1 zc_97.2.2.2.2.2.1 zp_97 zu_97 420) = true := by decide +kernel
theorem zt_97 {S : Nat × (Nat → Int32)} : zCtr mi_P S zTt zc_97 := by
  have hc : ∀ c ∈ zs_97, zCtr mi_P S zTt c := fun c hc => by cases hc
  exact zCtr_of (Om := zTt) (ct := zc_97) (ps := zp_97) (fun _ _ _ _ => trivial) rfl hc za_97 z0_97 zk_97
/-- L$Course.firstInLock(I)I -/
def zw_98 : zW := .leaf (0, [])
def zp_98 : List (zPo × List (Nat ⊕ (Nat × zL))) := [(([], [], [], some (.inr (.inr (.inr (.inl ((-1), 11)))))), [])]
def zc_98 : zCt := (82, 1, [.inr (.inl 399), .inl (0, [])], [], [], .branch 403 (.branch 378 (.leaf (367, 102, 11, .inr 3, [((10, []), .inr (.inl 378))])) (.branch 399 (.leaf (379, 0, 12, .inl ((-2147483648), 2147483647), [])) (.leaf (400, 109, 9, .inr 3, [((0, []), .inr (.inl 366)), ((2, []), .inr (.inl 403))])))) (.branch 408 (.leaf (404, 107, 14, .inr 3, [((11, []), .inr (.inl 408)), ((12, []), .inr (.inl 409))])) (.branch 409 (.leaf (409, 0, 3, .inl (0, 12), [])) (.leaf (410, 0, 36, .inl (0, 11), [])))), zw_98, [], zp_98.map (fun p => p.1))
def zu_98 : List zCu := [(([(82, 2, [(2, .inl (0, [(0, 1)])), (0, .inr (.inl 399)), (1, .inl (0, []))], [])], .branch 403 (.branch 378 (.leaf (367, 102, 11, .inr 3, [((10, []), .inr (.inl 378))])) (.branch 399 (.leaf (379, 0, 12, .inl ((-2147483648), 2147483647), [])) (.leaf (400, 109, 9, .inr 3, [((0, []), .inr (.inl 366)), ((2, []), .inr (.inl 403))])))) (.branch 408 (.leaf (404, 107, 14, .inr 3, [((11, []), .inr (.inl 408)), ((12, []), .inr (.inl 409))])) (.branch 409 (.leaf (409, 0, 3, .inl (0, 12), [])) (.leaf (410, 0, 36, .inl (0, 11), [])))), [(0, 12)], [], []), [.inl (0, 2)], (12, [(0, (-1))]))]
def zs_98 : List zCt := []
theorem za_98 : zwin zw_98 zc_98.2.2.2.2.2.1 = true := by decide +kernel
theorem z0_98 : zst0 mi_P zw_98 [] [] (fun d y as t en => zcal zw_98 d y as t en zs_98) zc_98 zp_98 zu_98 282 = true := by decide +kernel
theorem zk_98 : zu_98.all (zck mi_P zc_98.2.1 zw_98 false [] [] (fun d y as t en => zcal zw_98 d y as t en zs_98) zc_98.2.2.2.1.length zc_98.2.2.2.1 zc_98.2.2.2.2.2.1 zp_98 zu_98 282) = true := by decide +kernel
theorem zt_98 {S : Nat × (Nat → Int32)} : zCtr mi_P S zTt zc_98 := by
  have hc : ∀ c ∈ zs_98, zCtr mi_P S zTt c := fun c hc => by cases hc
  exact zCtr_of (Om := zTt) (ct := zc_98) (ps := zp_98) (fun _ _ _ _ => trivial) rfl hc za_98 z0_98 zk_98
/-- L$Course.firstInLock(I)I -/
def zw_99 : zW := .leaf (0, [])
def zp_99 : List (zPo × List (Nat ⊕ (Nat × zL))) := [(([], [], [], some (.inr (.inr (.inr (.inl ((-1), 11)))))), [])]
def zc_99 : zCt := (82, 1, [.inr (.inl 399), .inl (1, [])], [], [], .branch 403 (.branch 378 (.leaf (367, 102, 11, .inr 3, [((10, []), .inr (.inl 378))])) (.branch 399 (.leaf (379, 0, 12, .inl ((-2147483648), 2147483647), [])) (.leaf (400, 109, 9, .inr 3, [((0, []), .inr (.inl 366)), ((2, []), .inr (.inl 403))])))) (.branch 408 (.leaf (404, 107, 14, .inr 3, [((11, []), .inr (.inl 408)), ((12, []), .inr (.inl 409))])) (.branch 409 (.leaf (409, 0, 3, .inl (0, 12), [])) (.leaf (410, 0, 36, .inl (0, 11), [])))), zw_99, [], zp_99.map (fun p => p.1))
def zu_99 : List zCu := [(([(82, 2, [(2, .inl (0, [(0, 1)])), (0, .inr (.inl 399)), (1, .inl (1, []))], [])], .branch 403 (.branch 378 (.leaf (367, 102, 11, .inr 3, [((10, []), .inr (.inl 378))])) (.branch 399 (.leaf (379, 0, 12, .inl ((-2147483648), 2147483647), [])) (.leaf (400, 109, 9, .inr 3, [((0, []), .inr (.inl 366)), ((2, []), .inr (.inl 403))])))) (.branch 408 (.leaf (404, 107, 14, .inr 3, [((11, []), .inr (.inl 408)), ((12, []), .inr (.inl 409))])) (.branch 409 (.leaf (409, 0, 3, .inl (0, 12), [])) (.leaf (410, 0, 36, .inl (0, 11), [])))), [(0, 12)], [], []), [.inl (0, 2)], (12, [(0, (-1))]))]
def zs_99 : List zCt := []
theorem za_99 : zwin zw_99 zc_99.2.2.2.2.2.1 = true := by decide +kernel
theorem z0_99 : zst0 mi_P zw_99 [] [] (fun d y as t en => zcal zw_99 d y as t en zs_99) zc_99 zp_99 zu_99 282 = true := by decide +kernel
theorem zk_99 : zu_99.all (zck mi_P zc_99.2.1 zw_99 false [] [] (fun d y as t en => zcal zw_99 d y as t en zs_99) zc_99.2.2.2.1.length zc_99.2.2.2.1 zc_99.2.2.2.2.2.1 zp_99 zu_99 282) = true := by decide +kernel
theorem zt_99 {S : Nat × (Nat → Int32)} : zCtr mi_P S zTt zc_99 := by
  have hc : ∀ c ∈ zs_99, zCtr mi_P S zTt c := fun c hc => by cases hc
  exact zCtr_of (Om := zTt) (ct := zc_99) (ps := zp_99) (fun _ _ _ _ => trivial) rfl hc za_99 z0_99 zk_99
/-- L$Course.seatsTaken()I -/
def zw_100 : zW := .leaf (0, [])
def zp_100 : List (zPo × List (Nat ⊕ (Nat × zL))) := [(([], [], [], some (zaI)), [])]
def zc_100 : zCt := (88, 1, [.inr (.inl 399)], [], [], .branch 403 (.branch 377 (.leaf (367, 102, 11, .inr 3, [((9, []), .inr (.inl 377))])) (.branch 399 (.leaf (378, 0, 12, .inl ((-2147483648), 2147483647), [])) (.leaf (400, 109, 9, .inr 3, [((0, []), .inr (.inl 366)), ((2, []), .inr (.inl 403))])))) (.branch 408 (.leaf (404, 107, 14, .inr 3, [((11, []), .inr (.inl 408)), ((12, []), .inr (.inl 409))])) (.branch 409 (.leaf (409, 0, 3, .inl (0, 12), [])) (.leaf (410, 0, 36, .inl (0, 11), [])))), zw_100, [], zp_100.map (fun p => p.1))
def zu_100 : List zCu := [(([(88, 4, [(2, .inl (0, [(0, 1)])), (1, .inl (0, [(1, 1)])), (0, .inr (.inl 399))], [])], .branch 403 (.branch 377 (.leaf (367, 102, 11, .inr 3, [((9, []), .inr (.inl 377))])) (.branch 399 (.leaf (378, 0, 12, .inl ((-2147483648), 2147483647), [])) (.leaf (400, 109, 9, .inr 3, [((0, []), .inr (.inl 366)), ((2, []), .inr (.inl 403))])))) (.branch 408 (.leaf (404, 107, 14, .inr 3, [((11, []), .inr (.inl 408)), ((12, []), .inr (.inl 409))])) (.branch 409 (.leaf (409, 0, 3, .inl (0, 12), [])) (.leaf (410, 0, 36, .inl (0, 11), [])))), [(0, 12), ((-2147483648), 2147483647)], [], []), [.inl (0, 2), .inl (0, 1)], (12, [(0, (-1))]))]
def zs_100 : List zCt := []
theorem za_100 : zwin zw_100 zc_100.2.2.2.2.2.1 = true := by decide +kernel
theorem z0_100 : zst0 mi_P zw_100 [] [] (fun d y as t en => zcal zw_100 d y as t en zs_100) zc_100 zp_100 zu_100 278 = true := by decide +kernel
theorem zk_100 : zu_100.all (zck mi_P zc_100.2.1 zw_100 false [] [] (fun d y as t en => zcal zw_100 d y as t en zs_100) zc_100.2.2.2.1.length zc_100.2.2.2.1 zc_100.2.2.2.2.2.1 zp_100 zu_100 278) = true := by decide +kernel
theorem zt_100 {S : Nat × (Nat → Int32)} : zCtr mi_P S zTt zc_100 := by
  have hc : ∀ c ∈ zs_100, zCtr mi_P S zTt c := fun c hc => by cases hc
  exact zCtr_of (Om := zTt) (ct := zc_100) (ps := zp_100) (fun _ _ _ _ => trivial) rfl hc za_100 z0_100 zk_100
/-- L$Course.headsInLock()I -/
def zw_101 : zW := .leaf (0, [])
def zp_101 : List (zPo × List (Nat ⊕ (Nat × zL))) := [(([], [], [], some (zaI)), [])]
def zc_101 : zCt := (64, 1, [.inr (.inl 399)], [], [], .branch 403 (.branch 376 (.leaf (367, 102, 11, .inr 3, [((8, []), .inr (.inl 376))])) (.branch 399 (.leaf (377, 0, 12, .inl ((-2147483648), 2147483647), [])) (.leaf (400, 109, 9, .inr 3, [((0, []), .inr (.inl 366)), ((2, []), .inr (.inl 403))])))) (.branch 408 (.leaf (404, 107, 14, .inr 3, [((11, []), .inr (.inl 408)), ((12, []), .inr (.inl 409))])) (.branch 409 (.leaf (409, 0, 3, .inl (0, 12), [])) (.leaf (410, 0, 36, .inl (0, 11), [])))), zw_101, [], zp_101.map (fun p => p.1))
def zu_101 : List zCu := [(([(64, 4, [(2, .inl (0, [(0, 1)])), (1, .inl (0, [(1, 1)])), (0, .inr (.inl 399))], [])], .branch 403 (.branch 376 (.leaf (367, 102, 11, .inr 3, [((8, []), .inr (.inl 376))])) (.branch 399 (.leaf (377, 0, 12, .inl ((-2147483648), 2147483647), [])) (.leaf (400, 109, 9, .inr 3, [((0, []), .inr (.inl 366)), ((2, []), .inr (.inl 403))])))) (.branch 408 (.leaf (404, 107, 14, .inr 3, [((11, []), .inr (.inl 408)), ((12, []), .inr (.inl 409))])) (.branch 409 (.leaf (409, 0, 3, .inl (0, 12), [])) (.leaf (410, 0, 36, .inl (0, 11), [])))), [(0, 12), ((-2147483648), 2147483647)], [], []), [.inl (0, 2), .inl (0, 1)], (12, [(0, (-1))]))]
def zs_101 : List zCt := []
theorem za_101 : zwin zw_101 zc_101.2.2.2.2.2.1 = true := by decide +kernel
theorem z0_101 : zst0 mi_P zw_101 [] [] (fun d y as t en => zcal zw_101 d y as t en zs_101) zc_101 zp_101 zu_101 278 = true := by decide +kernel
theorem zk_101 : zu_101.all (zck mi_P zc_101.2.1 zw_101 false [] [] (fun d y as t en => zcal zw_101 d y as t en zs_101) zc_101.2.2.2.1.length zc_101.2.2.2.1 zc_101.2.2.2.2.2.1 zp_101 zu_101 278) = true := by decide +kernel
theorem zt_101 {S : Nat × (Nat → Int32)} : zCtr mi_P S zTt zc_101 := by
  have hc : ∀ c ∈ zs_101, zCtr mi_P S zTt c := fun c hc => by cases hc
  exact zCtr_of (Om := zTt) (ct := zc_101) (ps := zp_101) (fun _ _ _ _ => trivial) rfl hc za_101 z0_101 zk_101
/-- L$Course.pass(II)Z -/
def zw_102 : zW := .branch 404 (.branch 403 (.leaf (400, [3, 4, 5])) (.leaf (404, [2, 6]))) (.branch 405 (.leaf (405, [0])) (.leaf (406, [0])))
def zp_102 : List (zPo × List (Nat ⊕ (Nat × zL))) := [(([], [], [(399, [((3, []), zaI), ((4, []), zaI), ((5, []), zaI)]), (403, [((2, []), zaI), ((6, []), .inr (.inr (.inr (.inl (0, 20)))))]), (404, []), (405, [])], some (.inr (.inr (.inr (.inl (0, 1)))))), [])]
def zc_102 : zCt := (83, 1, [.inr (.inl 399), .inl (0, []), .inr (.inr (.inr (.inl (0, 11))))], [], [], .branch 403 (.branch 400 (.leaf (400, 109, 9, .inr 3, [((1, []), .inr (.inl 400)), ((2, []), .inr (.inl 403)), ((3, []), zaI), ((4, []), zaI), ((5, []), zaI)])) (.branch 401 (.leaf (401, 103, 5, .inr 3, [((1, []), .inr (.inr (.inr (.inl (0, 1))))), ((2, []), zaI), ((3, []), .inr (.inl 401))])) (.leaf (402, 0, 2, .inl ((-2147483648), 2147483647), [])))) (.branch 404 (.leaf (404, 107, 14, .inr 3, [((2, []), zaI), ((6, []), .inr (.inr (.inr (.inl (0, 20))))), ((7, []), .inr (.inl 404)), ((8, []), .inr (.inl 405))])) (.branch 405 (.leaf (405, 0, 20, .inl ((-2147483648), 2147483647), [])) (.leaf (406, 0, 2, .inl ((-2147483648), 2147483647), [])))), zw_102, [], zp_102.map (fun p => p.1))
def zu_102 : List zCu := []
def zs_102 : List zCt := [zc_92, zc_96]
theorem za_102 : zwin zw_102 zc_102.2.2.2.2.2.1 = true := by decide +kernel
theorem z0_102 : zst0 mi_P zw_102 [] [] (fun d y as t en => zcal zw_102 d y as t en zs_102) zc_102 zp_102 zu_102 378 = true := by decide +kernel
theorem zk_102 : zu_102.all (zck mi_P zc_102.2.1 zw_102 false [] [] (fun d y as t en => zcal zw_102 d y as t en zs_102) zc_102.2.2.2.1.length zc_102.2.2.2.1 zc_102.2.2.2.2.2.1 zp_102 zu_102 378) = true := by decide +kernel
theorem zt_102 {S : Nat × (Nat → Int32)} : zCtr mi_P S zTt zc_102 := by
  have hc : ∀ c ∈ zs_102, zCtr mi_P S zTt c := by
    intro c hc
    simp only [zs_102, List.mem_cons, List.not_mem_nil, or_false] at hc
    rcases hc with rfl | rfl
    · exact zt_92
    · exact zt_96
  exact zCtr_of (Om := zTt) (ct := zc_102) (ps := zp_102) (fun _ _ _ _ => trivial) rfl hc za_102 z0_102 zk_102
/-- L$Course.pass(II)Z -/
def zw_103 : zW := .branch 404 (.branch 403 (.leaf (400, [3, 4, 5])) (.leaf (404, [2, 6]))) (.branch 405 (.leaf (405, [0])) (.leaf (406, [0])))
def zp_103 : List (zPo × List (Nat ⊕ (Nat × zL))) := [(([], [], [(399, [((3, []), zaI), ((4, []), zaI), ((5, []), zaI)]), (403, [((2, []), zaI), ((6, []), .inr (.inr (.inr (.inl (0, 20)))))]), (404, []), (405, [])], some (.inr (.inr (.inr (.inl (0, 1)))))), [])]
def zc_103 : zCt := (83, 1, [.inr (.inl 399), .inl (1, []), .inr (.inr (.inr (.inl (0, 11))))], [], [], .branch 403 (.branch 400 (.leaf (400, 109, 9, .inr 3, [((1, []), .inr (.inl 400)), ((2, []), .inr (.inl 403)), ((3, []), zaI), ((4, []), zaI), ((5, []), zaI)])) (.branch 401 (.leaf (401, 103, 5, .inr 3, [((1, []), .inr (.inr (.inr (.inl (0, 1))))), ((2, []), zaI), ((3, []), .inr (.inl 401))])) (.leaf (402, 0, 2, .inl ((-2147483648), 2147483647), [])))) (.branch 404 (.leaf (404, 107, 14, .inr 3, [((2, []), zaI), ((6, []), .inr (.inr (.inr (.inl (0, 20))))), ((7, []), .inr (.inl 404)), ((8, []), .inr (.inl 405))])) (.branch 405 (.leaf (405, 0, 20, .inl ((-2147483648), 2147483647), [])) (.leaf (406, 0, 2, .inl ((-2147483648), 2147483647), [])))), zw_103, [], zp_103.map (fun p => p.1))
def zu_103 : List zCu := []
def zs_103 : List zCt := [zc_92, zc_96]
theorem za_103 : zwin zw_103 zc_103.2.2.2.2.2.1 = true := by decide +kernel
theorem z0_103 : zst0 mi_P zw_103 [] [] (fun d y as t en => zcal zw_103 d y as t en zs_103) zc_103 zp_103 zu_103 376 = true := by decide +kernel
theorem zk_103 : zu_103.all (zck mi_P zc_103.2.1 zw_103 false [] [] (fun d y as t en => zcal zw_103 d y as t en zs_103) zc_103.2.2.2.1.length zc_103.2.2.2.1 zc_103.2.2.2.2.2.1 zp_103 zu_103 376) = true := by decide +kernel
theorem zt_103 {S : Nat × (Nat → Int32)} : zCtr mi_P S zTt zc_103 := by
  have hc : ∀ c ∈ zs_103, zCtr mi_P S zTt c := by
    intro c hc
    simp only [zs_103, List.mem_cons, List.not_mem_nil, or_false] at hc
    rcases hc with rfl | rfl
    · exact zt_92
    · exact zt_96
  exact zCtr_of (Om := zTt) (ct := zc_103) (ps := zp_103) (fun _ _ _ _ => trivial) rfl hc za_103 z0_103 zk_103
/-- L$Course.leaveLock(II)V -/
def zw_104 : zW := .branch 405 (.branch 403 (.leaf (400, [3, 4, 5])) (.branch 404 (.leaf (404, [2, 6])) (.leaf (405, [0])))) (.branch 408 (.branch 406 (.leaf (406, [0])) (.leaf (407, [0]))) (.branch 409 (.leaf (409, [0])) (.leaf (410, [0]))))
def zp_104 : List (zPo × List (Nat ⊕ (Nat × zL))) := [(([], [], [(399, [((3, []), zaI), ((4, []), zaI), ((5, []), zaI)]), (403, [((2, []), zaI), ((6, []), .inr (.inr (.inr (.inl (0, 20)))))]), (404, []), (405, []), (406, []), (408, []), (409, [])], none), [])]
def zc_104 : zCt := (81, 2, [.inr (.inl 399), .inl (1, []), .inl (1, [])], [], [], .branch 403 (.branch 399 (.branch 378 (.leaf (367, 102, 11, .inr 3, [((10, []), .inr (.inl 378))])) (.leaf (379, 0, 12, .inl ((-2147483648), 2147483647), []))) (.branch 400 (.leaf (400, 109, 9, .inr 3, [((0, []), .inr (.inl 366)), ((1, []), .inr (.inl 400)), ((2, []), .inr (.inl 403)), ((3, []), zaI), ((4, []), zaI), ((5, []), zaI)])) (.branch 401 (.leaf (401, 103, 5, .inr 3, [((1, []), .inr (.inr (.inr (.inl (0, 1))))), ((2, []), zaI), ((3, []), .inr (.inl 401))])) (.leaf (402, 0, 2, .inl ((-2147483648), 2147483647), []))))) (.branch 406 (.branch 404 (.leaf (404, 107, 14, .inr 3, [((2, []), zaI), ((6, []), .inr (.inr (.inr (.inl (0, 20))))), ((7, []), .inr (.inl 404)), ((8, []), .inr (.inl 405)), ((9, []), .inr (.inl 406)), ((11, []), .inr (.inl 408)), ((12, []), .inr (.inl 409))])) (.branch 405 (.leaf (405, 0, 20, .inl ((-2147483648), 2147483647), [])) (.leaf (406, 0, 2, .inl ((-2147483648), 2147483647), [])))) (.branch 408 (.leaf (407, 0, 12, .inl ((-2147483648), 2147483647), [])) (.branch 409 (.leaf (409, 0, 3, .inl (0, 12), [])) (.leaf (410, 0, 36, .inl (0, 11), []))))), zw_104, [], zp_104.map (fun p => p.1))
def zu_104 : List zCu := []
def zs_104 : List zCt := [zc_99, zc_103, zc_93]
theorem za_104 : zwin zw_104 zc_104.2.2.2.2.2.1 = true := by decide +kernel
theorem z0_104 : zst0 mi_P zw_104 [] [] (fun d y as t en => zcal zw_104 d y as t en zs_104) zc_104 zp_104 zu_104 246 = true := by decide +kernel
theorem zk_104 : zu_104.all (zck mi_P zc_104.2.1 zw_104 false [] [] (fun d y as t en => zcal zw_104 d y as t en zs_104) zc_104.2.2.2.1.length zc_104.2.2.2.1 zc_104.2.2.2.2.2.1 zp_104 zu_104 246) = true := by decide +kernel
theorem zt_104 {S : Nat × (Nat → Int32)} : zCtr mi_P S zTt zc_104 := by
  have hc : ∀ c ∈ zs_104, zCtr mi_P S zTt c := by
    intro c hc
    simp only [zs_104, List.mem_cons, List.not_mem_nil, or_false] at hc
    rcases hc with rfl | rfl | rfl
    · exact zt_99
    · exact zt_103
    · exact zt_93
  exact zCtr_of (Om := zTt) (ct := zc_104) (ps := zp_104) (fun _ _ _ _ => trivial) rfl hc za_104 z0_104 zk_104
/-- L$Course.leaveLock(II)V -/
def zw_105 : zW := .branch 405 (.branch 403 (.leaf (400, [3, 4, 5])) (.branch 404 (.leaf (404, [2, 6])) (.leaf (405, [0])))) (.branch 408 (.branch 406 (.leaf (406, [0])) (.leaf (407, [0]))) (.branch 409 (.leaf (409, [0])) (.leaf (410, [0]))))
def zp_105 : List (zPo × List (Nat ⊕ (Nat × zL))) := [(([], [], [(399, [((3, []), zaI), ((4, []), zaI), ((5, []), zaI)]), (403, [((2, []), zaI), ((6, []), .inr (.inr (.inr (.inl (0, 20)))))]), (404, []), (405, []), (406, []), (408, []), (409, [])], none), [])]
def zc_105 : zCt := (81, 2, [.inr (.inl 399), .inl (0, []), .inl (0, [])], [], [], .branch 403 (.branch 399 (.branch 378 (.leaf (367, 102, 11, .inr 3, [((10, []), .inr (.inl 378))])) (.leaf (379, 0, 12, .inl ((-2147483648), 2147483647), []))) (.branch 400 (.leaf (400, 109, 9, .inr 3, [((0, []), .inr (.inl 366)), ((1, []), .inr (.inl 400)), ((2, []), .inr (.inl 403)), ((3, []), zaI), ((4, []), zaI), ((5, []), zaI)])) (.branch 401 (.leaf (401, 103, 5, .inr 3, [((1, []), .inr (.inr (.inr (.inl (0, 1))))), ((2, []), zaI), ((3, []), .inr (.inl 401))])) (.leaf (402, 0, 2, .inl ((-2147483648), 2147483647), []))))) (.branch 406 (.branch 404 (.leaf (404, 107, 14, .inr 3, [((2, []), zaI), ((6, []), .inr (.inr (.inr (.inl (0, 20))))), ((7, []), .inr (.inl 404)), ((8, []), .inr (.inl 405)), ((9, []), .inr (.inl 406)), ((11, []), .inr (.inl 408)), ((12, []), .inr (.inl 409))])) (.branch 405 (.leaf (405, 0, 20, .inl ((-2147483648), 2147483647), [])) (.leaf (406, 0, 2, .inl ((-2147483648), 2147483647), [])))) (.branch 408 (.leaf (407, 0, 12, .inl ((-2147483648), 2147483647), [])) (.branch 409 (.leaf (409, 0, 3, .inl (0, 12), [])) (.leaf (410, 0, 36, .inl (0, 11), []))))), zw_105, [], zp_105.map (fun p => p.1))
def zu_105 : List zCu := []
def zs_105 : List zCt := [zc_98, zc_102, zc_93]
theorem za_105 : zwin zw_105 zc_105.2.2.2.2.2.1 = true := by decide +kernel
theorem z0_105 : zst0 mi_P zw_105 [] [] (fun d y as t en => zcal zw_105 d y as t en zs_105) zc_105 zp_105 zu_105 246 = true := by decide +kernel
theorem zk_105 : zu_105.all (zck mi_P zc_105.2.1 zw_105 false [] [] (fun d y as t en => zcal zw_105 d y as t en zs_105) zc_105.2.2.2.1.length zc_105.2.2.2.1 zc_105.2.2.2.2.2.1 zp_105 zu_105 246) = true := by decide +kernel
theorem zt_105 {S : Nat × (Nat → Int32)} : zCtr mi_P S zTt zc_105 := by
  have hc : ∀ c ∈ zs_105, zCtr mi_P S zTt c := by
    intro c hc
    simp only [zs_105, List.mem_cons, List.not_mem_nil, or_false] at hc
    rcases hc with rfl | rfl | rfl
    · exact zt_98
    · exact zt_102
    · exact zt_93
  exact zCtr_of (Om := zTt) (ct := zc_105) (ps := zp_105) (fun _ _ _ _ => trivial) rfl hc za_105 z0_105 zk_105
/-- L$Course.enterLock(II)V -/
def zw_106 : zW := .branch 406 (.branch 404 (.branch 403 (.leaf (400, [3, 4, 5])) (.leaf (404, [2, 6]))) (.branch 405 (.leaf (405, [0])) (.leaf (406, [0])))) (.branch 408 (.branch 407 (.leaf (407, [0])) (.leaf (408, [0]))) (.branch 409 (.leaf (409, [0])) (.leaf (410, [0]))))
def zp_106 : List (zPo × List (Nat ⊕ (Nat × zL))) := [(([], [], [(399, [((3, []), zaI), ((4, []), zaI), ((5, []), zaI)]), (403, [((2, []), zaI), ((6, []), .inr (.inr (.inr (.inl (0, 20)))))]), (404, []), (405, []), (406, []), (407, []), (408, []), (409, [])], none), [])]
def zc_106 : zCt := (87, 2, [.inr (.inl 399), .inl (0, []), .inl (0, [])], [], [], .branch 403 (.branch 400 (.branch 377 (.leaf (367, 102, 11, .inr 3, [((9, []), .inr (.inl 377))])) (.branch 399 (.leaf (378, 0, 12, .inl ((-2147483648), 2147483647), [])) (.leaf (400, 109, 9, .inr 3, [((0, []), .inr (.inl 366)), ((1, []), .inr (.inl 400)), ((2, []), .inr (.inl 403)), ((3, []), zaI), ((4, []), zaI), ((5, []), zaI)])))) (.branch 401 (.leaf (401, 103, 5, .inr 3, [((0, []), zaI), ((1, []), .inr (.inr (.inr (.inl (0, 1))))), ((2, []), zaI), ((3, []), .inr (.inl 401)), ((4, []), .inr (.inl 402))])) (.branch 402 (.leaf (402, 0, 2, .inl ((-2147483648), 2147483647), [])) (.leaf (403, 0, 12, .inl ((-2147483648), 2147483647), []))))) (.branch 406 (.branch 404 (.leaf (404, 107, 14, .inr 3, [((0, []), zaI), ((2, []), zaI), ((6, []), .inr (.inr (.inr (.inl (0, 20))))), ((7, []), .inr (.inl 404)), ((8, []), .inr (.inl 405)), ((9, []), .inr (.inl 406)), ((10, []), .inr (.inl 407)), ((11, []), .inr (.inl 408)), ((12, []), .inr (.inl 409))])) (.branch 405 (.leaf (405, 0, 20, .inl ((-2147483648), 2147483647), [])) (.leaf (406, 0, 2, .inl ((-2147483648), 2147483647), [])))) (.branch 408 (.branch 407 (.leaf (407, 0, 12, .inl ((-2147483648), 2147483647), [])) (.leaf (408, 0, 12, .inl ((-2147483648), 2147483647), []))) (.branch 409 (.leaf (409, 0, 3, .inl (0, 12), [])) (.leaf (410, 0, 36, .inl (0, 11), []))))), zw_106, [], zp_106.map (fun p => p.1))
def zu_106 : List zCu := []
def zs_106 : List zCt := [zc_100, zc_102, zc_94]
theorem za_106 : zwin zw_106 zc_106.2.2.2.2.2.1 = true := by decide +kernel
theorem z0_106 : zst0 mi_P zw_106 [] [] (fun d y as t en => zcal zw_106 d y as t en zs_106) zc_106 zp_106 zu_106 456 = true := by decide +kernel
theorem zk_106 : zu_106.all (zck mi_P zc_106.2.1 zw_106 false [] [] (fun d y as t en => zcal zw_106 d y as t en zs_106) zc_106.2.2.2.1.length zc_106.2.2.2.1 zc_106.2.2.2.2.2.1 zp_106 zu_106 456) = true := by decide +kernel
theorem zt_106 {S : Nat × (Nat → Int32)} : zCtr mi_P S zTt zc_106 := by
  have hc : ∀ c ∈ zs_106, zCtr mi_P S zTt c := by
    intro c hc
    simp only [zs_106, List.mem_cons, List.not_mem_nil, or_false] at hc
    rcases hc with rfl | rfl | rfl
    · exact zt_100
    · exact zt_102
    · exact zt_94
  exact zCtr_of (Om := zTt) (ct := zc_106) (ps := zp_106) (fun _ _ _ _ => trivial) rfl hc za_106 z0_106 zk_106
/-- L$Course.enterLock(II)V -/
def zw_107 : zW := .branch 406 (.branch 404 (.branch 403 (.leaf (400, [3, 4, 5])) (.leaf (404, [2, 6]))) (.branch 405 (.leaf (405, [0])) (.leaf (406, [0])))) (.branch 408 (.branch 407 (.leaf (407, [0])) (.leaf (408, [0]))) (.branch 409 (.leaf (409, [0])) (.leaf (410, [0]))))
def zp_107 : List (zPo × List (Nat ⊕ (Nat × zL))) := [(([], [], [(399, [((3, []), zaI), ((4, []), zaI), ((5, []), zaI)]), (403, [((2, []), zaI), ((6, []), .inr (.inr (.inr (.inl (0, 20)))))]), (404, []), (405, []), (406, []), (407, []), (408, []), (409, [])], none), [])]
def zc_107 : zCt := (87, 2, [.inr (.inl 399), .inl (1, []), .inl (1, [])], [], [], .branch 403 (.branch 400 (.branch 377 (.leaf (367, 102, 11, .inr 3, [((9, []), .inr (.inl 377))])) (.branch 399 (.leaf (378, 0, 12, .inl ((-2147483648), 2147483647), [])) (.leaf (400, 109, 9, .inr 3, [((0, []), .inr (.inl 366)), ((1, []), .inr (.inl 400)), ((2, []), .inr (.inl 403)), ((3, []), zaI), ((4, []), zaI), ((5, []), zaI)])))) (.branch 401 (.leaf (401, 103, 5, .inr 3, [((0, []), zaI), ((1, []), .inr (.inr (.inr (.inl (0, 1))))), ((2, []), zaI), ((3, []), .inr (.inl 401)), ((4, []), .inr (.inl 402))])) (.branch 402 (.leaf (402, 0, 2, .inl ((-2147483648), 2147483647), [])) (.leaf (403, 0, 12, .inl ((-2147483648), 2147483647), []))))) (.branch 406 (.branch 404 (.leaf (404, 107, 14, .inr 3, [((0, []), zaI), ((2, []), zaI), ((6, []), .inr (.inr (.inr (.inl (0, 20))))), ((7, []), .inr (.inl 404)), ((8, []), .inr (.inl 405)), ((9, []), .inr (.inl 406)), ((10, []), .inr (.inl 407)), ((11, []), .inr (.inl 408)), ((12, []), .inr (.inl 409))])) (.branch 405 (.leaf (405, 0, 20, .inl ((-2147483648), 2147483647), [])) (.leaf (406, 0, 2, .inl ((-2147483648), 2147483647), [])))) (.branch 408 (.branch 407 (.leaf (407, 0, 12, .inl ((-2147483648), 2147483647), [])) (.leaf (408, 0, 12, .inl ((-2147483648), 2147483647), []))) (.branch 409 (.leaf (409, 0, 3, .inl (0, 12), [])) (.leaf (410, 0, 36, .inl (0, 11), []))))), zw_107, [], zp_107.map (fun p => p.1))
def zu_107 : List zCu := []
def zs_107 : List zCt := [zc_100, zc_103, zc_95]
theorem za_107 : zwin zw_107 zc_107.2.2.2.2.2.1 = true := by decide +kernel
theorem z0_107 : zst0 mi_P zw_107 [] [] (fun d y as t en => zcal zw_107 d y as t en zs_107) zc_107 zp_107 zu_107 456 = true := by decide +kernel
theorem zk_107 : zu_107.all (zck mi_P zc_107.2.1 zw_107 false [] [] (fun d y as t en => zcal zw_107 d y as t en zs_107) zc_107.2.2.2.1.length zc_107.2.2.2.1 zc_107.2.2.2.2.2.1 zp_107 zu_107 456) = true := by decide +kernel
theorem zt_107 {S : Nat × (Nat → Int32)} : zCtr mi_P S zTt zc_107 := by
  have hc : ∀ c ∈ zs_107, zCtr mi_P S zTt c := by
    intro c hc
    simp only [zs_107, List.mem_cons, List.not_mem_nil, or_false] at hc
    rcases hc with rfl | rfl | rfl
    · exact zt_100
    · exact zt_103
    · exact zt_95
  exact zCtr_of (Om := zTt) (ct := zc_107) (ps := zp_107) (fun _ _ _ _ => trivial) rfl hc za_107 z0_107 zk_107
/-- L$Course.tally()V -/
def zw_108 : zW := .branch 411 (.branch 403 (.leaf (400, [6])) (.leaf (404, [3]))) (.branch 412 (.leaf (412, [0])) (.leaf (413, [0])))
def zp_108 : List (zPo × List (Nat ⊕ (Nat × zL))) := [(([], [], [(399, [((6, []), zaI)]), (403, [((3, []), zaI)]), (411, []), (412, [])], none), [])]
def zc_108 : zCt := (89, 2, [.inr (.inl 399)], [], [], .branch 405 (.branch 378 (.branch 376 (.leaf (367, 102, 11, .inr 3, [((8, []), .inr (.inl 376)), ((10, []), .inr (.inl 378))])) (.leaf (377, 0, 12, .inl ((-2147483648), 2147483647), []))) (.branch 399 (.leaf (379, 0, 12, .inl ((-2147483648), 2147483647), [])) (.branch 403 (.leaf (400, 109, 9, .inr 3, [((0, []), .inr (.inl 366)), ((2, []), .inr (.inl 403)), ((6, []), zaI), ((7, []), .inr (.inl 411)), ((8, []), .inr (.inl 412))])) (.leaf (404, 107, 14, .inr 3, [((3, []), zaI), ((8, []), .inr (.inl 405)), ((11, []), .inr (.inl 408)), ((12, []), .inr (.inl 409))]))))) (.branch 409 (.branch 408 (.leaf (406, 0, 2, .inl ((-2147483648), 2147483647), [])) (.leaf (409, 0, 3, .inl (0, 12), []))) (.branch 411 (.leaf (410, 0, 36, .inl (0, 11), [])) (.branch 412 (.leaf (412, 0, 2, .inl ((-2147483648), 2147483647), [])) (.leaf (413, 0, 3, .inl ((-2147483648), 2147483647), []))))), zw_108, [], zp_108.map (fun p => p.1))
def zu_108 : List zCu := []
def zs_108 : List zCt := [zc_101, zc_99, zc_98]
theorem za_108 : zwin zw_108 zc_108.2.2.2.2.2.1 = true := by decide +kernel
theorem z0_108 : zst0 mi_P zw_108 [] [] (fun d y as t en => zcal zw_108 d y as t en zs_108) zc_108 zp_108 zu_108 884 = true := by decide +kernel
theorem zk_108 : zu_108.all (zck mi_P zc_108.2.1 zw_108 false [] [] (fun d y as t en => zcal zw_108 d y as t en zs_108) zc_108.2.2.2.1.length zc_108.2.2.2.1 zc_108.2.2.2.2.2.1 zp_108 zu_108 884) = true := by decide +kernel
theorem zt_108 {S : Nat × (Nat → Int32)} : zCtr mi_P S zTt zc_108 := by
  have hc : ∀ c ∈ zs_108, zCtr mi_P S zTt c := by
    intro c hc
    simp only [zs_108, List.mem_cons, List.not_mem_nil, or_false] at hc
    rcases hc with rfl | rfl | rfl
    · exact zt_101
    · exact zt_99
    · exact zt_98
  exact zCtr_of (Om := zTt) (ct := zc_108) (ps := zp_108) (fun _ _ _ _ => trivial) rfl hc za_108 z0_108 zk_108
/-- L$Course.slip()V -/
def zw_109 : zW := .branch 403 (.branch 374 (.leaf (372, [0])) (.leaf (375, [0]))) (.branch 410 (.leaf (404, [2])) (.leaf (411, [0])))
def zp_109 : List (zPo × List (Nat ⊕ (Nat × zL))) := [(([], [], [(371, []), (374, []), (403, [((2, []), zaI)]), (410, [])], none), [])]
def zc_109 : zCt := (90, 3, [.inr (.inl 399)], [], [], .branch 376 (.branch 372 (.branch 370 (.leaf (367, 102, 11, .inr 3, [((1, []), .inr (.inl 370)), ((5, []), .inr (.inr (.inr (.inl (0, 4))))), ((8, []), .inr (.inl 376))])) (.branch 371 (.leaf (371, 104, 7, .inr 3, [((0, []), .inr (.inl 371)), ((4, []), .inr (.inl 372)), ((5, []), .inr (.inl 373)), ((6, []), .inr (.inl 374))])) (.leaf (372, 0, 6, .inl ((-2147483648), 2147483647), [])))) (.branch 373 (.leaf (373, 0, 5, .inl (0, 540), [])) (.branch 374 (.leaf (374, 0, 540, .inr 1, [])) (.leaf (375, 0, 30, .inl ((-2147483648), 2147483647), []))))) (.branch 405 (.branch 399 (.leaf (377, 0, 12, .inl ((-2147483648), 2147483647), [])) (.branch 403 (.leaf (400, 109, 9, .inr 3, [((0, []), .inr (.inl 366)), ((2, []), .inr (.inl 403))])) (.leaf (404, 107, 14, .inr 3, [((1, []), zaI), ((2, []), zaI), ((4, []), zaI), ((5, []), .inr (.inr (.inr (.inl (0, 1))))), ((8, []), .inr (.inl 405)), ((11, []), .inr (.inl 408)), ((12, []), .inr (.inl 409)), ((13, []), .inr (.inl 410))])))) (.branch 409 (.branch 408 (.leaf (406, 0, 2, .inl ((-2147483648), 2147483647), [])) (.leaf (409, 0, 3, .inl (0, 12), []))) (.branch 410 (.leaf (410, 0, 36, .inl (0, 11), [])) (.leaf (411, 0, 16, .inl ((-2147483648), 2147483647), []))))), zw_109, [], zp_109.map (fun p => p.1))
def zu_109 : List zCu := [(([(90, 8, [(1, .inl (0, [(2, 1)])), (0, .inr (.inl 399))], [])], .branch 376 (.branch 372 (.branch 370 (.leaf (367, 102, 11, .inr 3, [((1, []), .inr (.inl 370)), ((5, []), .inr (.inr (.inr (.inl (0, 4))))), ((8, []), .inr (.inl 376))])) (.branch 371 (.leaf (371, 104, 7, .inr 3, [((0, []), .inr (.inl 371)), ((4, []), .inr (.inl 372)), ((5, []), .inr (.inl 373)), ((6, []), .inr (.inl 374))])) (.leaf (372, 0, 6, .inl ((-2147483648), 2147483647), [((3, []), .inl (0, [(0, 1)])), ((4, []), .inl (0, [(1, 1)]))])))) (.branch 373 (.leaf (373, 0, 5, .inl (0, 540), [])) (.branch 374 (.leaf (374, 0, 540, .inr 1, [])) (.leaf (375, 0, 30, .inl ((-2147483648), 2147483647), []))))) (.branch 405 (.branch 399 (.leaf (377, 0, 12, .inl ((-2147483648), 2147483647), [])) (.branch 403 (.leaf (400, 109, 9, .inr 3, [((0, []), .inr (.inl 366)), ((2, []), .inr (.inl 403))])) (.leaf (404, 107, 14, .inr 3, [((2, []), zaI), ((8, []), .inr (.inl 405)), ((11, []), .inr (.inl 408)), ((12, []), .inr (.inl 409)), ((13, []), .inr (.inl 410)), ((5, []), .inr (.inr (.inr (.inl (0, 1))))), ((4, []), .inl (0, [(0, 1)])), ((1, []), .inl (0, [(1, 1)]))])))) (.branch 409 (.branch 408 (.leaf (406, 0, 2, .inl ((-2147483648), 2147483647), [])) (.leaf (409, 0, 3, .inl (0, 12), []))) (.branch 410 (.leaf (410, 0, 36, .inl (0, 11), [])) (.leaf (411, 0, 16, .inl ((-2147483648), 2147483647), []))))), [((-2147483648), 2147483647), ((-2147483648), 2147483647), (0, 4)], [], []), [.inr (.inr (371, (3, []))), .inr (.inr (371, (4, []))), .inl (0, 1)], (4, [(2, (-1))]))]
def zs_109 : List zCt := [zc_101, zc_71, zc_92]
theorem za_109 : zwin zw_109 zc_109.2.2.2.2.2.1 = true := by decide +kernel
theorem z0_109 : zst0 mi_P zw_109 [] [] (fun d y as t en => zcal zw_109 d y as t en zs_109) zc_109 zp_109 zu_109 740 = true := by decide +kernel
theorem zk_109 : zu_109.all (zck mi_P zc_109.2.1 zw_109 false [] [] (fun d y as t en => zcal zw_109 d y as t en zs_109) zc_109.2.2.2.1.length zc_109.2.2.2.1 zc_109.2.2.2.2.2.1 zp_109 zu_109 740) = true := by decide +kernel
theorem zt_109 {S : Nat × (Nat → Int32)} : zCtr mi_P S zTt zc_109 := by
  have hc : ∀ c ∈ zs_109, zCtr mi_P S zTt c := by
    intro c hc
    simp only [zs_109, List.mem_cons, List.not_mem_nil, or_false] at hc
    rcases hc with rfl | rfl | rfl
    · exact zt_101
    · exact zt_71
    · exact zt_92
  exact zCtr_of (Om := zTt) (ct := zc_109) (ps := zp_109) (fun _ _ _ _ => trivial) rfl hc za_109 z0_109 zk_109
/-- L$Course.passSecond()V -/
def zw_110 : zW := .branch 406 (.branch 403 (.branch 374 (.leaf (372, [0])) (.branch 399 (.leaf (375, [0])) (.leaf (400, [3, 4, 5, 6])))) (.branch 404 (.leaf (404, [0, 2, 3, 6])) (.branch 405 (.leaf (405, [0])) (.leaf (406, [0]))))) (.branch 409 (.branch 407 (.leaf (407, [0])) (.branch 408 (.leaf (408, [0])) (.leaf (409, [0])))) (.branch 411 (.branch 410 (.leaf (410, [0])) (.leaf (411, [0]))) (.branch 412 (.leaf (412, [0])) (.leaf (413, [0])))))
def zp_110 : List (zPo × List (Nat ⊕ (Nat × zL))) := [(([], [], [(371, []), (374, []), (399, [((3, []), zaI), ((4, []), zaI), ((5, []), zaI), ((6, []), zaI)]), (403, [((0, []), zaI), ((2, []), zaI), ((3, []), zaI), ((6, []), .inr (.inr (.inr (.inl (0, 20)))))]), (404, []), (405, []), (406, []), (407, []), (408, []), (409, []), (410, []), (411, []), (412, [])], none), [])]
def zc_110 : zCt := (78, 4, [.inr (.inl 399)], [], [], .branch 401 (.branch 374 (.branch 371 (.branch 370 (.leaf (367, 102, 11, .inr 3, [((1, []), .inr (.inl 370)), ((5, []), .inr (.inr (.inr (.inl (0, 4))))), ((7, []), .inr (.inr (.inr (.inl (0, 12))))), ((8, []), .inr (.inl 376)), ((9, []), .inr (.inl 377)), ((10, []), .inr (.inl 378))])) (.leaf (371, 104, 7, .inr 3, [((0, []), .inr (.inl 371)), ((4, []), .inr (.inl 372)), ((5, []), .inr (.inl 373)), ((6, []), .inr (.inl 374))]))) (.branch 372 (.leaf (372, 0, 6, .inl ((-2147483648), 2147483647), [])) (.branch 373 (.leaf (373, 0, 5, .inl (0, 540), [])) (.leaf (374, 0, 540, .inr 1, []))))) (.branch 378 (.branch 376 (.leaf (375, 0, 30, .inl ((-2147483648), 2147483647), [])) (.branch 377 (.leaf (377, 0, 12, .inl ((-2147483648), 2147483647), [])) (.leaf (378, 0, 12, .inl ((-2147483648), 2147483647), [])))) (.branch 399 (.leaf (379, 0, 12, .inl ((-2147483648), 2147483647), [])) (.branch 400 (.leaf (400, 109, 9, .inr 3, [((0, []), .inr (.inl 366)), ((1, []), .inr (.inl 400)), ((2, []), .inr (.inl 403)), ((3, []), zaI), ((4, []), zaI), ((5, []), zaI), ((6, []), zaI), ((7, []), .inr (.inl 411)), ((8, []), .inr (.inl 412))])) (.leaf (401, 103, 5, .inr 3, [((0, []), zaI), ((1, []), .inr (.inr (.inr (.inl (0, 1))))), ((2, []), zaI), ((3, []), .inr (.inl 401)), ((4, []), .inr (.inl 402))])))))) (.branch 407 (.branch 404 (.branch 402 (.leaf (402, 0, 2, .inl ((-2147483648), 2147483647), [])) (.branch 403 (.leaf (403, 0, 12, .inl ((-2147483648), 2147483647), [])) (.leaf (404, 107, 14, .inr 3, [((0, []), zaI), ((1, []), zaI), ((2, []), zaI), ((3, []), zaI), ((4, []), zaI), ((5, []), .inr (.inr (.inr (.inl (0, 1))))), ((6, []), .inr (.inr (.inr (.inl (0, 20))))), ((7, []), .inr (.inl 404)), ((8, []), .inr (.inl 405)), ((9, []), .inr (.inl 406)), ((10, []), .inr (.inl 407)), ((11, []), .inr (.inl 408)), ((12, []), .inr (.inl 409)), ((13, []), .inr (.inl 410))])))) (.branch 405 (.leaf (405, 0, 20, .inl ((-2147483648), 2147483647), [])) (.branch 406 (.leaf (406, 0, 2, .inl ((-2147483648), 2147483647), [])) (.leaf (407, 0, 12, .inl ((-2147483648), 2147483647), []))))) (.branch 410 (.branch 408 (.leaf (408, 0, 12, .inl ((-2147483648), 2147483647), [])) (.branch 409 (.leaf (409, 0, 3, .inl (0, 12), [])) (.leaf (410, 0, 36, .inl (0, 11), [])))) (.branch 411 (.leaf (411, 0, 16, .inl ((-2147483648), 2147483647), [])) (.branch 412 (.leaf (412, 0, 2, .inl ((-2147483648), 2147483647), [])) (.leaf (413, 0, 3, .inl ((-2147483648), 2147483647), [])))))), zw_110, [], zp_110.map (fun p => p.1))
def zu_110 : List zCu := []
def zs_110 : List zCt := [zc_97, zc_104, zc_105, zc_106, zc_107, zc_108, zc_109]
theorem za_110 : zwin zw_110 zc_110.2.2.2.2.2.1 = true := by decide +kernel
theorem z0_110 : zst0 mi_P zw_110 [] [] (fun d y as t en => zcal zw_110 d y as t en zs_110) zc_110 zp_110 zu_110 314 = true := by decide +kernel
theorem zk_110 : zu_110.all (zck mi_P zc_110.2.1 zw_110 false [] [] (fun d y as t en => zcal zw_110 d y as t en zs_110) zc_110.2.2.2.1.length zc_110.2.2.2.1 zc_110.2.2.2.2.2.1 zp_110 zu_110 314) = true := by decide +kernel
theorem zt_110 {S : Nat × (Nat → Int32)} : zCtr mi_P S zTt zc_110 := by
  have hc : ∀ c ∈ zs_110, zCtr mi_P S zTt c := by
    intro c hc
    simp only [zs_110, List.mem_cons, List.not_mem_nil, or_false] at hc
    rcases hc with rfl | rfl | rfl | rfl | rfl | rfl | rfl
    · exact zt_97
    · exact zt_104
    · exact zt_105
    · exact zt_106
    · exact zt_107
    · exact zt_108
    · exact zt_109
  exact zCtr_of (Om := zTt) (ct := zc_110) (ps := zp_110) (fun _ _ _ _ => trivial) rfl hc za_110 z0_110 zk_110
/-- L$Course.oddsOf(I)I -/
def zw_111 : zW := .branch 374 (.leaf (372, [0])) (.leaf (375, [0]))
def zp_111 : List (zPo × List (Nat ⊕ (Nat × zL))) := [(([], [], [(371, []), (374, [])], some (.inr (.inr (.inr (.inl (0, 100)))))), [])]
def zc_111 : zCt := (61, 3, [.inr (.inl 399), .inr (.inr (.inr (.inl (0, 3))))], [], [], .branch 376 (.branch 372 (.branch 370 (.leaf (367, 102, 11, .inr 3, [((1, []), .inr (.inl 370)), ((8, []), .inr (.inl 376))])) (.branch 371 (.leaf (371, 104, 7, .inr 3, [((0, []), .inr (.inl 371)), ((4, []), .inr (.inl 372)), ((5, []), .inr (.inl 373)), ((6, []), .inr (.inl 374))])) (.leaf (372, 0, 6, .inl ((-2147483648), 2147483647), [])))) (.branch 373 (.leaf (373, 0, 5, .inl (0, 540), [])) (.branch 374 (.leaf (374, 0, 540, .inr 1, [])) (.leaf (375, 0, 30, .inl ((-2147483648), 2147483647), []))))) (.branch 405 (.branch 399 (.leaf (377, 0, 12, .inl ((-2147483648), 2147483647), [])) (.branch 403 (.leaf (400, 109, 9, .inr 3, [((0, []), .inr (.inl 366)), ((2, []), .inr (.inl 403))])) (.leaf (404, 107, 14, .inr 3, [((1, []), zaI), ((4, []), zaI), ((5, []), .inr (.inr (.inr (.inl (0, 1))))), ((8, []), .inr (.inl 405)), ((11, []), .inr (.inl 408)), ((12, []), .inr (.inl 409)), ((13, []), .inr (.inl 410))])))) (.branch 409 (.branch 408 (.leaf (406, 0, 2, .inl ((-2147483648), 2147483647), [])) (.leaf (409, 0, 3, .inl (0, 12), []))) (.branch 410 (.leaf (410, 0, 36, .inl (0, 11), [])) (.leaf (411, 0, 16, .inl ((-2147483648), 2147483647), []))))), zw_111, [], zp_111.map (fun p => p.1))
def zu_111 : List zCu := []
def zs_111 : List zCt := [zc_101, zc_71]
theorem za_111 : zwin zw_111 zc_111.2.2.2.2.2.1 = true := by decide +kernel
theorem z0_111 : zst0 mi_P zw_111 [] [] (fun d y as t en => zcal zw_111 d y as t en zs_111) zc_111 zp_111 zu_111 832 = true := by decide +kernel
theorem zk_111 : zu_111.all (zck mi_P zc_111.2.1 zw_111 false [] [] (fun d y as t en => zcal zw_111 d y as t en zs_111) zc_111.2.2.2.1.length zc_111.2.2.2.1 zc_111.2.2.2.2.2.1 zp_111 zu_111 832) = true := by decide +kernel
theorem zt_111 {S : Nat × (Nat → Int32)} : zCtr mi_P S zTt zc_111 := by
  have hc : ∀ c ∈ zs_111, zCtr mi_P S zTt c := by
    intro c hc
    simp only [zs_111, List.mem_cons, List.not_mem_nil, or_false] at hc
    rcases hc with rfl | rfl
    · exact zt_101
    · exact zt_71
  exact zCtr_of (Om := zTt) (ct := zc_111) (ps := zp_111) (fun _ _ _ _ => trivial) rfl hc za_111 z0_111 zk_111
/-- L$Day.skipQuiet(I)I -/
def zw_112 : zW := .leaf (404, [0])
def zp_112 : List (zPo × List (Nat ⊕ (Nat × zL))) := [(([], [], [(403, [((0, []), zaI)])], some (.inr (.inr (.inr (.inl (0, 900)))))), [])]
def zc_112 : zCt := (111, 0, [.inr (.inl 398), .inr (.inr (.inr (.inl (0, 900))))], [], [], .branch 400 (.branch 398 (.leaf (367, 102, 11, .inr 3, [((7, []), .inr (.inr (.inr (.inl (0, 12)))))])) (.branch 399 (.leaf (399, 111, 2, .inr 3, [((0, []), .inr (.inl 399))])) (.leaf (400, 109, 9, .inr 3, [((0, []), .inr (.inl 366)), ((1, []), .inr (.inl 400)), ((2, []), .inr (.inl 403))])))) (.branch 403 (.branch 402 (.leaf (401, 103, 5, .inr 3, [((4, []), .inr (.inl 402))])) (.leaf (403, 0, 12, .inl ((-2147483648), 2147483647), []))) (.branch 406 (.leaf (404, 107, 14, .inr 3, [((0, []), zaI), ((9, []), .inr (.inl 406))])) (.leaf (407, 0, 12, .inl ((-2147483648), 2147483647), [])))), zw_112, [], zp_112.map (fun p => p.1))
def zu_112 : List zCu := [(([(111, 4, [(3, .inl (0, [(1, 1)])), (2, .inl (0, [(2, 1)])), (0, .inr (.inl 398)), (1, .inl (0, [(0, 1)]))], [])], .branch 400 (.branch 398 (.leaf (367, 102, 11, .inr 3, [((7, []), .inr (.inr (.inr (.inl (0, 12)))))])) (.branch 399 (.leaf (399, 111, 2, .inr 3, [((0, []), .inr (.inl 399))])) (.leaf (400, 109, 9, .inr 3, [((0, []), .inr (.inl 366)), ((1, []), .inr (.inl 400)), ((2, []), .inr (.inl 403))])))) (.branch 403 (.branch 402 (.leaf (401, 103, 5, .inr 3, [((4, []), .inr (.inl 402))])) (.leaf (403, 0, 12, .inl ((-2147483648), 2147483647), []))) (.branch 406 (.leaf (404, 107, 14, .inr 3, [((0, []), zaI), ((9, []), .inr (.inl 406))])) (.leaf (407, 0, 12, .inl ((-2147483648), 2147483647), [])))), [(0, 900), (0, 12), ((-2147483648), 900)], [], []), [.inl (0, 1), .inl (0, 3), .inl (0, 2)], (12, [(1, (-1))]))]
def zs_112 : List zCt := []
theorem za_112 : zwin zw_112 zc_112.2.2.2.2.2.1 = true := by decide +kernel
theorem z0_112 : zst0 mi_P zw_112 [] [] (fun d y as t en => zcal zw_112 d y as t en zs_112) zc_112 zp_112 zu_112 288 = true := by decide +kernel
theorem zk_112 : zu_112.all (zck mi_P zc_112.2.1 zw_112 false [] [] (fun d y as t en => zcal zw_112 d y as t en zs_112) zc_112.2.2.2.1.length zc_112.2.2.2.1 zc_112.2.2.2.2.2.1 zp_112 zu_112 288) = true := by decide +kernel
theorem zt_112 {S : Nat × (Nat → Int32)} : zCtr mi_P S zTt zc_112 := by
  have hc : ∀ c ∈ zs_112, zCtr mi_P S zTt c := fun c hc => by cases hc
  exact zCtr_of (Om := zTt) (ct := zc_112) (ps := zp_112) (fun _ _ _ _ => trivial) rfl hc za_112 z0_112 zk_112
/-- L$Day.notThrough()I -/
def zw_113 : zW := .leaf (0, [])
def zp_113 : List (zPo × List (Nat ⊕ (Nat × zL))) := [(([], [], [], some (zaI)), [])]
def zc_113 : zCt := (110, 0, [.inr (.inl 398)], [], [], .branch 399 (.branch 398 (.leaf (367, 102, 11, .inr 3, [((7, []), .inr (.inr (.inr (.inl (0, 12)))))])) (.leaf (399, 111, 2, .inr 3, [((0, []), .inr (.inl 399))]))) (.branch 403 (.leaf (400, 109, 9, .inr 3, [((0, []), .inr (.inl 366)), ((2, []), .inr (.inl 403))])) (.branch 406 (.leaf (404, 107, 14, .inr 3, [((9, []), .inr (.inl 406))])) (.leaf (407, 0, 12, .inl ((-2147483648), 2147483647), [])))), zw_113, [], zp_113.map (fun p => p.1))
def zu_113 : List zCu := [(([(110, 4, [(2, .inl (0, [(0, 1)])), (1, .inl (0, [(1, 1)])), (0, .inr (.inl 398))], [])], .branch 399 (.branch 398 (.leaf (367, 102, 11, .inr 3, [((7, []), .inr (.inr (.inr (.inl (0, 12)))))])) (.leaf (399, 111, 2, .inr 3, [((0, []), .inr (.inl 399))]))) (.branch 403 (.leaf (400, 109, 9, .inr 3, [((0, []), .inr (.inl 366)), ((2, []), .inr (.inl 403))])) (.branch 406 (.leaf (404, 107, 14, .inr 3, [((9, []), .inr (.inl 406))])) (.leaf (407, 0, 12, .inl ((-2147483648), 2147483647), [])))), [(0, 12), ((-2147483648), 2147483647)], [], []), [.inl (0, 2), .inl (0, 1)], (12, [(0, (-1))]))]
def zs_113 : List zCt := []
theorem za_113 : zwin zw_113 zc_113.2.2.2.2.2.1 = true := by decide +kernel
theorem z0_113 : zst0 mi_P zw_113 [] [] (fun d y as t en => zcal zw_113 d y as t en zs_113) zc_113 zp_113 zu_113 258 = true := by decide +kernel
theorem zk_113 : zu_113.all (zck mi_P zc_113.2.1 zw_113 false [] [] (fun d y as t en => zcal zw_113 d y as t en zs_113) zc_113.2.2.2.1.length zc_113.2.2.2.1 zc_113.2.2.2.2.2.1 zp_113 zu_113 258) = true := by decide +kernel
theorem zt_113 {S : Nat × (Nat → Int32)} : zCtr mi_P S zTt zc_113 := by
  have hc : ∀ c ∈ zs_113, zCtr mi_P S zTt c := fun c hc => by cases hc
  exact zCtr_of (Om := zTt) (ct := zc_113) (ps := zp_113) (fun _ _ _ _ => trivial) rfl hc za_113 z0_113 zk_113
/-- L$Day.longestWait()I -/
def zw_114 : zW := .leaf (0, [])
def zp_114 : List (zPo × List (Nat ⊕ (Nat × zL))) := [(([], [], [], some (.inr (.inr (.inr (.inl (0, 2147483647)))))), [])]
def zc_114 : zCt := (112, 0, [.inr (.inl 398)], [], [], .branch 399 (.branch 398 (.leaf (367, 102, 11, .inr 3, [((7, []), .inr (.inr (.inr (.inl (0, 12)))))])) (.leaf (399, 111, 2, .inr 3, [((0, []), .inr (.inl 399))]))) (.branch 403 (.leaf (400, 109, 9, .inr 3, [((0, []), .inr (.inl 366)), ((2, []), .inr (.inl 403))])) (.branch 407 (.leaf (404, 107, 14, .inr 3, [((10, []), .inr (.inl 407))])) (.leaf (408, 0, 12, .inl ((-2147483648), 2147483647), [])))), zw_114, [], zp_114.map (fun p => p.1))
def zu_114 : List zCu := [(([(112, 4, [(2, .inl (0, [(0, 1)])), (1, .inl (0, [(1, 1)])), (0, .inr (.inl 398))], [])], .branch 399 (.branch 398 (.leaf (367, 102, 11, .inr 3, [((7, []), .inr (.inr (.inr (.inl (0, 12)))))])) (.leaf (399, 111, 2, .inr 3, [((0, []), .inr (.inl 399))]))) (.branch 403 (.leaf (400, 109, 9, .inr 3, [((0, []), .inr (.inl 366)), ((2, []), .inr (.inl 403))])) (.branch 407 (.leaf (404, 107, 14, .inr 3, [((10, []), .inr (.inl 407))])) (.leaf (408, 0, 12, .inl ((-2147483648), 2147483647), [])))), [(0, 12), (0, 2147483647)], [], []), [.inl (0, 2), .inl (0, 1)], (12, [(0, (-1))]))]
def zs_114 : List zCt := []
theorem za_114 : zwin zw_114 zc_114.2.2.2.2.2.1 = true := by decide +kernel
theorem z0_114 : zst0 mi_P zw_114 [] [] (fun d y as t en => zcal zw_114 d y as t en zs_114) zc_114 zp_114 zu_114 236 = true := by decide +kernel
theorem zk_114 : zu_114.all (zck mi_P zc_114.2.1 zw_114 false [] [] (fun d y as t en => zcal zw_114 d y as t en zs_114) zc_114.2.2.2.1.length zc_114.2.2.2.1 zc_114.2.2.2.2.2.1 zp_114 zu_114 236) = true := by decide +kernel
theorem zt_114 {S : Nat × (Nat → Int32)} : zCtr mi_P S zTt zc_114 := by
  have hc : ∀ c ∈ zs_114, zCtr mi_P S zTt c := fun c hc => by cases hc
  exact zCtr_of (Om := zTt) (ct := zc_114) (ps := zp_114) (fun _ _ _ _ => trivial) rfl hc za_114 z0_114 zk_114
/-- L$Day.waitsTogether()I -/
def zw_115 : zW := .leaf (0, [])
def zp_115 : List (zPo × List (Nat ⊕ (Nat × zL))) := [(([], [], [], some (zaI)), [])]
def zc_115 : zCt := (113, 0, [.inr (.inl 398)], [], [], .branch 399 (.branch 398 (.leaf (367, 102, 11, .inr 3, [((7, []), .inr (.inr (.inr (.inl (0, 12)))))])) (.leaf (399, 111, 2, .inr 3, [((0, []), .inr (.inl 399))]))) (.branch 403 (.leaf (400, 109, 9, .inr 3, [((0, []), .inr (.inl 366)), ((2, []), .inr (.inl 403))])) (.branch 407 (.leaf (404, 107, 14, .inr 3, [((10, []), .inr (.inl 407))])) (.leaf (408, 0, 12, .inl ((-2147483648), 2147483647), [])))), zw_115, [], zp_115.map (fun p => p.1))
def zu_115 : List zCu := [(([(113, 4, [(2, .inl (0, [(0, 1)])), (1, .inl (0, [(1, 1)])), (0, .inr (.inl 398))], [])], .branch 399 (.branch 398 (.leaf (367, 102, 11, .inr 3, [((7, []), .inr (.inr (.inr (.inl (0, 12)))))])) (.leaf (399, 111, 2, .inr 3, [((0, []), .inr (.inl 399))]))) (.branch 403 (.leaf (400, 109, 9, .inr 3, [((0, []), .inr (.inl 366)), ((2, []), .inr (.inl 403))])) (.branch 407 (.leaf (404, 107, 14, .inr 3, [((10, []), .inr (.inl 407))])) (.leaf (408, 0, 12, .inl ((-2147483648), 2147483647), [])))), [(0, 12), ((-2147483648), 2147483647)], [], []), [.inl (0, 2), .inl (0, 1)], (12, [(0, (-1))]))]
def zs_115 : List zCt := []
theorem za_115 : zwin zw_115 zc_115.2.2.2.2.2.1 = true := by decide +kernel
theorem z0_115 : zst0 mi_P zw_115 [] [] (fun d y as t en => zcal zw_115 d y as t en zs_115) zc_115 zp_115 zu_115 240 = true := by decide +kernel
theorem zk_115 : zu_115.all (zck mi_P zc_115.2.1 zw_115 false [] [] (fun d y as t en => zcal zw_115 d y as t en zs_115) zc_115.2.2.2.1.length zc_115.2.2.2.1 zc_115.2.2.2.2.2.1 zp_115 zu_115 240) = true := by decide +kernel
theorem zt_115 {S : Nat × (Nat → Int32)} : zCtr mi_P S zTt zc_115 := by
  have hc : ∀ c ∈ zs_115, zCtr mi_P S zTt c := fun c hc => by cases hc
  exact zCtr_of (Om := zTt) (ct := zc_115) (ps := zp_115) (fun _ _ _ _ => trivial) rfl hc za_115 z0_115 zk_115
/-- L$Day.headsThrough()I -/
def zw_116 : zW := .leaf (0, [])
def zp_116 : List (zPo × List (Nat ⊕ (Nat × zL))) := [(([], [], [], some (zaI)), [])]
def zc_116 : zCt := (115, 0, [.inr (.inl 398)], [], [], .branch 399 (.branch 376 (.leaf (367, 102, 11, .inr 3, [((7, []), .inr (.inr (.inr (.inl (0, 12))))), ((8, []), .inr (.inl 376))])) (.branch 398 (.leaf (377, 0, 12, .inl ((-2147483648), 2147483647), [])) (.leaf (399, 111, 2, .inr 3, [((0, []), .inr (.inl 399))])))) (.branch 403 (.leaf (400, 109, 9, .inr 3, [((0, []), .inr (.inl 366)), ((2, []), .inr (.inl 403))])) (.branch 406 (.leaf (404, 107, 14, .inr 3, [((9, []), .inr (.inl 406))])) (.leaf (407, 0, 12, .inl ((-2147483648), 2147483647), [])))), zw_116, [], zp_116.map (fun p => p.1))
def zu_116 : List zCu := [(([(115, 4, [(2, .inl (0, [(0, 1)])), (1, .inl (0, [(1, 1)])), (0, .inr (.inl 398))], [])], .branch 399 (.branch 376 (.leaf (367, 102, 11, .inr 3, [((7, []), .inr (.inr (.inr (.inl (0, 12))))), ((8, []), .inr (.inl 376))])) (.branch 398 (.leaf (377, 0, 12, .inl ((-2147483648), 2147483647), [])) (.leaf (399, 111, 2, .inr 3, [((0, []), .inr (.inl 399))])))) (.branch 403 (.leaf (400, 109, 9, .inr 3, [((0, []), .inr (.inl 366)), ((2, []), .inr (.inl 403))])) (.branch 406 (.leaf (404, 107, 14, .inr 3, [((9, []), .inr (.inl 406))])) (.leaf (407, 0, 12, .inl ((-2147483648), 2147483647), [])))), [(0, 12), ((-2147483648), 2147483647)], [], []), [.inl (0, 2), .inl (0, 1)], (12, [(0, (-1))]))]
def zs_116 : List zCt := []
theorem za_116 : zwin zw_116 zc_116.2.2.2.2.2.1 = true := by decide +kernel
theorem z0_116 : zst0 mi_P zw_116 [] [] (fun d y as t en => zcal zw_116 d y as t en zs_116) zc_116 zp_116 zu_116 264 = true := by decide +kernel
theorem zk_116 : zu_116.all (zck mi_P zc_116.2.1 zw_116 false [] [] (fun d y as t en => zcal zw_116 d y as t en zs_116) zc_116.2.2.2.1.length zc_116.2.2.2.1 zc_116.2.2.2.2.2.1 zp_116 zu_116 264) = true := by decide +kernel
theorem zt_116 {S : Nat × (Nat → Int32)} : zCtr mi_P S zTt zc_116 := by
  have hc : ∀ c ∈ zs_116, zCtr mi_P S zTt c := fun c hc => by cases hc
  exact zCtr_of (Om := zTt) (ct := zc_116) (ps := zp_116) (fun _ _ _ _ => trivial) rfl hc za_116 z0_116 zk_116
/-- L$Now.allOutside()I -/
def zw_117 : zW := .leaf (0, [])
def zp_117 : List (zPo × List (Nat ⊕ (Nat × zL))) := [(([], [], [], some (zaI)), [])]
def zc_117 : zCt := (114, 1, [.inr (.inl 403)], [], [], .branch 410 (.leaf (404, 107, 14, .inr 3, [((13, []), .inr (.inl 410))])) (.leaf (411, 0, 16, .inl ((-2147483648), 2147483647), [])), zw_117, [], zp_117.map (fun p => p.1))
def zu_117 : List zCu := [(([(114, 4, [(2, .inl (0, [(0, 1)])), (1, .inl (0, [(1, 1)])), (0, .inr (.inl 403))], [])], .branch 410 (.leaf (404, 107, 14, .inr 3, [((13, []), .inr (.inl 410))])) (.leaf (411, 0, 16, .inl ((-2147483648), 2147483647), [])), [(0, 4), ((-2147483648), 2147483647)], [], []), [.inl (0, 2), .inl (0, 1)], (4, [(0, (-1))]))]
def zs_117 : List zCt := []
theorem za_117 : zwin zw_117 zc_117.2.2.2.2.2.1 = true := by decide +kernel
theorem z0_117 : zst0 mi_P zw_117 [] [] (fun d y as t en => zcal zw_117 d y as t en zs_117) zc_117 zp_117 zu_117 244 = true := by decide +kernel
theorem zk_117 : zu_117.all (zck mi_P zc_117.2.1 zw_117 false [] [] (fun d y as t en => zcal zw_117 d y as t en zs_117) zc_117.2.2.2.1.length zc_117.2.2.2.1 zc_117.2.2.2.2.2.1 zp_117 zu_117 244) = true := by decide +kernel
theorem zt_117 {S : Nat × (Nat → Int32)} : zCtr mi_P S zTt zc_117 := by
  have hc : ∀ c ∈ zs_117, zCtr mi_P S zTt c := fun c hc => by cases hc
  exact zCtr_of (Om := zTt) (ct := zc_117) (ps := zp_117) (fun _ _ _ _ => trivial) rfl hc za_117 z0_117 zk_117
/-- L$Day.run()V -/
def zw_118 : zW := .branch 406 (.branch 399 (.branch 374 (.leaf (372, [0])) (.branch 398 (.leaf (375, [0])) (.leaf (399, [1])))) (.branch 404 (.branch 403 (.leaf (400, [3, 4, 5, 6])) (.leaf (404, [0, 2, 3, 6]))) (.branch 405 (.leaf (405, [0])) (.leaf (406, [0]))))) (.branch 409 (.branch 407 (.leaf (407, [0])) (.branch 408 (.leaf (408, [0])) (.leaf (409, [0])))) (.branch 411 (.branch 410 (.leaf (410, [0])) (.leaf (411, [0]))) (.branch 412 (.leaf (412, [0])) (.leaf (413, [0])))))
def zp_118 : List (zPo × List (Nat ⊕ (Nat × zL))) := [(([], [], [(371, []), (374, []), (398, [((1, []), zaI)]), (399, [((3, []), zaI), ((4, []), zaI), ((5, []), zaI), ((6, []), zaI)]), (403, [((0, []), zaI), ((2, []), zaI), ((3, []), zaI), ((6, []), .inr (.inr (.inr (.inl (0, 20)))))]), (404, []), (405, []), (406, []), (407, []), (408, []), (409, []), (410, []), (411, []), (412, [])], none), [])]
def zc_118 : zCt := (107, 5, [.inr (.inl 398)], [], [], .branch 401 (.branch 376 (.branch 372 (.branch 370 (.leaf (367, 102, 11, .inr 3, [((1, []), .inr (.inl 370)), ((5, []), .inr (.inr (.inr (.inl (0, 4))))), ((7, []), .inr (.inr (.inr (.inl (0, 12))))), ((8, []), .inr (.inl 376)), ((9, []), .inr (.inl 377)), ((10, []), .inr (.inl 378))])) (.branch 371 (.leaf (371, 104, 7, .inr 3, [((0, []), .inr (.inl 371)), ((4, []), .inr (.inl 372)), ((5, []), .inr (.inl 373)), ((6, []), .inr (.inl 374))])) (.leaf (372, 0, 6, .inl ((-2147483648), 2147483647), [])))) (.branch 373 (.leaf (373, 0, 5, .inl (0, 540), [])) (.branch 374 (.leaf (374, 0, 540, .inr 1, [])) (.leaf (375, 0, 30, .inl ((-2147483648), 2147483647), []))))) (.branch 398 (.branch 377 (.leaf (377, 0, 12, .inl ((-2147483648), 2147483647), [])) (.branch 378 (.leaf (378, 0, 12, .inl ((-2147483648), 2147483647), [])) (.leaf (379, 0, 12, .inl ((-2147483648), 2147483647), [])))) (.branch 399 (.leaf (399, 111, 2, .inr 3, [((0, []), .inr (.inl 399)), ((1, []), zaI)])) (.branch 400 (.leaf (400, 109, 9, .inr 3, [((0, []), .inr (.inl 366)), ((1, []), .inr (.inl 400)), ((2, []), .inr (.inl 403)), ((3, []), zaI), ((4, []), zaI), ((5, []), zaI), ((6, []), zaI), ((7, []), .inr (.inl 411)), ((8, []), .inr (.inl 412))])) (.leaf (401, 103, 5, .inr 3, [((0, []), zaI), ((1, []), .inr (.inr (.inr (.inl (0, 1))))), ((2, []), zaI), ((3, []), .inr (.inl 401)), ((4, []), .inr (.inl 402))])))))) (.branch 407 (.branch 404 (.branch 402 (.leaf (402, 0, 2, .inl ((-2147483648), 2147483647), [])) (.branch 403 (.leaf (403, 0, 12, .inl ((-2147483648), 2147483647), [])) (.leaf (404, 107, 14, .inr 3, [((0, []), zaI), ((1, []), zaI), ((2, []), zaI), ((3, []), zaI), ((4, []), zaI), ((5, []), .inr (.inr (.inr (.inl (0, 1))))), ((6, []), .inr (.inr (.inr (.inl (0, 20))))), ((7, []), .inr (.inl 404)), ((8, []), .inr (.inl 405)), ((9, []), .inr (.inl 406)), ((10, []), .inr (.inl 407)), ((11, []), .inr (.inl 408)), ((12, []), .inr (.inl 409)), ((13, []), .inr (.inl 410))])))) (.branch 405 (.leaf (405, 0, 20, .inl ((-2147483648), 2147483647), [])) (.branch 406 (.leaf (406, 0, 2, .inl ((-2147483648), 2147483647), [])) (.leaf (407, 0, 12, .inl ((-2147483648), 2147483647), []))))) (.branch 410 (.branch 408 (.leaf (408, 0, 12, .inl ((-2147483648), 2147483647), [])) (.branch 409 (.leaf (409, 0, 3, .inl (0, 12), [])) (.leaf (410, 0, 36, .inl (0, 11), [])))) (.branch 411 (.leaf (411, 0, 16, .inl ((-2147483648), 2147483647), [])) (.branch 412 (.leaf (412, 0, 2, .inl ((-2147483648), 2147483647), [])) (.leaf (413, 0, 3, .inl ((-2147483648), 2147483647), [])))))), zw_118, [], zp_118.map (fun p => p.1))
def zu_118 : List zCu := [(([(107, 6, [(0, .inr (.inl 398))], [])], .branch 401 (.branch 376 (.branch 372 (.branch 370 (.leaf (367, 102, 11, .inr 3, [((1, []), .inr (.inl 370)), ((5, []), .inr (.inr (.inr (.inl (0, 4))))), ((7, []), .inr (.inr (.inr (.inl (0, 12))))), ((8, []), .inr (.inl 376)), ((9, []), .inr (.inl 377)), ((10, []), .inr (.inl 378))])) (.branch 371 (.leaf (371, 104, 7, .inr 3, [((0, []), .inr (.inl 371)), ((4, []), .inr (.inl 372)), ((5, []), .inr (.inl 373)), ((6, []), .inr (.inl 374))])) (.leaf (372, 0, 6, .inl ((-2147483648), 2147483647), [])))) (.branch 373 (.leaf (373, 0, 5, .inl (0, 540), [])) (.branch 374 (.leaf (374, 0, 540, .inr 1, [])) (.leaf (375, 0, 30, .inl ((-2147483648), 2147483647), []))))) (.branch 398 (.branch 377 (.leaf (377, 0, 12, .inl ((-2147483648), 2147483647), [])) (.branch 378 (.leaf (378, 0, 12, .inl ((-2147483648), 2147483647), [])) (.leaf (379, 0, 12, .inl ((-2147483648), 2147483647), [])))) (.branch 399 (.leaf (399, 111, 2, .inr 3, [((0, []), .inr (.inl 399)), ((1, []), .inl (0, [(0, 1)]))])) (.branch 400 (.leaf (400, 109, 9, .inr 3, [((0, []), .inr (.inl 366)), ((1, []), .inr (.inl 400)), ((2, []), .inr (.inl 403)), ((7, []), .inr (.inl 411)), ((8, []), .inr (.inl 412)), ((3, []), zaI), ((4, []), zaI), ((5, []), zaI), ((6, []), zaI)])) (.leaf (401, 103, 5, .inr 3, [((0, []), zaI), ((1, []), .inr (.inr (.inr (.inl (0, 1))))), ((2, []), zaI), ((3, []), .inr (.inl 401)), ((4, []), .inr (.inl 402))])))))) (.branch 407 (.branch 404 (.branch 402 (.leaf (402, 0, 2, .inl ((-2147483648), 2147483647), [])) (.branch 403 (.leaf (403, 0, 12, .inl ((-2147483648), 2147483647), [])) (.leaf (404, 107, 14, .inr 3, [((0, []), zaI), ((1, []), zaI), ((2, []), zaI), ((3, []), zaI), ((4, []), zaI), ((5, []), .inr (.inr (.inr (.inl (0, 1))))), ((6, []), .inr (.inr (.inr (.inl (0, 20))))), ((7, []), .inr (.inl 404)), ((8, []), .inr (.inl 405)), ((9, []), .inr (.inl 406)), ((10, []), .inr (.inl 407)), ((11, []), .inr (.inl 408)), ((12, []), .inr (.inl 409)), ((13, []), .inr (.inl 410))])))) (.branch 405 (.leaf (405, 0, 20, .inl ((-2147483648), 2147483647), [])) (.branch 406 (.leaf (406, 0, 2, .inl ((-2147483648), 2147483647), [])) (.leaf (407, 0, 12, .inl ((-2147483648), 2147483647), []))))) (.branch 410 (.branch 408 (.leaf (408, 0, 12, .inl ((-2147483648), 2147483647), [])) (.branch 409 (.leaf (409, 0, 3, .inl (0, 12), [])) (.leaf (410, 0, 36, .inl (0, 11), [])))) (.branch 411 (.leaf (411, 0, 16, .inl ((-2147483648), 2147483647), [])) (.branch 412 (.leaf (412, 0, 2, .inl ((-2147483648), 2147483647), [])) (.leaf (413, 0, 3, .inl ((-2147483648), 2147483647), [])))))), [(0, 1800)], [], []), [.inr (.inr (398, (1, [])))], (1800, [(0, (-1))]))]
def zs_118 : List zCt := [zc_113, zc_110, zc_112]
theorem za_118 : zwin zw_118 zc_118.2.2.2.2.2.1 = true := by decide +kernel
theorem z0_118 : zst0 mi_P zw_118 [] [] (fun d y as t en => zcal zw_118 d y as t en zs_118) zc_118 zp_118 zu_118 380 = true := by decide +kernel
theorem zk_118 : zu_118.all (zck mi_P zc_118.2.1 zw_118 false [] [] (fun d y as t en => zcal zw_118 d y as t en zs_118) zc_118.2.2.2.1.length zc_118.2.2.2.1 zc_118.2.2.2.2.2.1 zp_118 zu_118 380) = true := by decide +kernel
theorem zt_118 {S : Nat × (Nat → Int32)} : zCtr mi_P S zTt zc_118 := by
  have hc : ∀ c ∈ zs_118, zCtr mi_P S zTt c := by
    intro c hc
    simp only [zs_118, List.mem_cons, List.not_mem_nil, or_false] at hc
    rcases hc with rfl | rfl | rfl
    · exact zt_113
    · exact zt_110
    · exact zt_112
  exact zCtr_of (Om := zTt) (ct := zc_118) (ps := zp_118) (fun _ _ _ _ => trivial) rfl hc za_118 z0_118 zk_118
/-- L$Planner.dayFrom(LAviaryLock$Now;)LAviaryLock$Day; -/
def zw_119 : zW := .branch 404 (.branch 400 (.branch 398 (.branch 374 (.leaf (372, [0])) (.leaf (375, [0]))) (.branch 399 (.leaf (399, [1])) (.leaf (400, [3, 4, 5, 6])))) (.branch 402 (.branch 401 (.leaf (401, [0, 1, 2])) (.leaf (402, [0]))) (.branch 403 (.leaf (403, [0])) (.leaf (404, [0, 1, 2, 3, 4, 5, 6]))))) (.branch 408 (.branch 406 (.branch 405 (.leaf (405, [0])) (.leaf (406, [0]))) (.branch 407 (.leaf (407, [0])) (.leaf (408, [0])))) (.branch 410 (.branch 409 (.leaf (409, [0])) (.leaf (410, [0]))) (.branch 411 (.leaf (411, [0])) (.branch 412 (.leaf (412, [0])) (.leaf (413, [0]))))))
def zp_119 : List (zPo × List (Nat ⊕ (Nat × zL))) := [(([], [], [(371, []), (374, []), (398, [((1, []), zaI)]), (399, [((3, []), zaI), ((4, []), zaI), ((5, []), zaI), ((6, []), zaI)]), (400, [((0, []), zaI), ((1, []), .inr (.inr (.inr (.inl (0, 1))))), ((2, []), zaI)]), (401, []), (402, []), (403, [((0, []), zaI), ((1, []), zaI), ((2, []), zaI), ((3, []), zaI), ((4, []), zaI), ((5, []), .inr (.inr (.inr (.inl (0, 1))))), ((6, []), .inr (.inr (.inr (.inl (0, 20)))))]), (404, []), (405, []), (406, []), (407, []), (408, []), (409, []), (410, []), (411, []), (412, [])], some (.inr (.inl 398))), [])]
def zc_119 : zCt := (105, 6, [.inr (.inl 393), .inr (.inl 383)], [], [], .branch 389 (.branch 376 (.branch 370 (.branch 368 (.branch 367 (.leaf (367, 102, 11, .inr 3, [((0, []), .inr (.inl 367)), ((1, []), .inr (.inl 370)), ((5, []), .inr (.inr (.inr (.inl (0, 4))))), ((7, []), .inr (.inr (.inr (.inl (0, 12))))), ((8, []), .inr (.inl 376)), ((9, []), .inr (.inl 377)), ((10, []), .inr (.inl 378))])) (.leaf (368, 103, 5, .inr 3, [((0, []), zaI), ((1, []), .inr (.inr (.inr (.inl (0, 1))))), ((2, []), zaI), ((3, []), .inr (.inl 368)), ((4, []), .inr (.inl 369))]))) (.branch 369 (.leaf (369, 0, 2, .inl ((-2147483648), 2147483647), [])) (.leaf (370, 0, 12, .inl ((-2147483648), 2147483647), [])))) (.branch 372 (.branch 371 (.leaf (371, 104, 7, .inr 3, [((0, []), .inr (.inl 371)), ((4, []), .inr (.inl 372)), ((5, []), .inr (.inl 373)), ((6, []), .inr (.inl 374))])) (.leaf (372, 0, 6, .inl ((-2147483648), 2147483647), []))) (.branch 373 (.leaf (373, 0, 5, .inl (0, 540), [])) (.branch 374 (.leaf (374, 0, 540, .inr 1, [])) (.leaf (375, 0, 30, .inl ((-2147483648), 2147483647), [])))))) (.branch 384 (.branch 378 (.branch 377 (.leaf (377, 0, 12, .inl ((-2147483648), 2147483647), [])) (.leaf (378, 0, 12, .inl ((-2147483648), 2147483647), []))) (.branch 383 (.leaf (379, 0, 12, .inl ((-2147483648), 2147483647), [])) (.leaf (384, 107, 14, .inr 3, [((0, []), zaI), ((1, []), zaI), ((2, []), zaI), ((3, []), zaI), ((4, []), zaI), ((5, []), .inr (.inr (.inr (.inl (0, 1))))), ((6, []), .inr (.inr (.inr (.inl (0, 20))))), ((7, []), .inr (.inl 384)), ((8, []), .inr (.inl 385)), ((9, []), .inr (.inl 386)), ((10, []), .inr (.inl 387)), ((11, []), .inr (.inl 388)), ((12, []), .inr (.inl 389)), ((13, []), .inr (.inl 390))])))) (.branch 386 (.branch 385 (.leaf (385, 0, 20, .inl ((-2147483648), 2147483647), [])) (.leaf (386, 0, 2, .inl ((-2147483648), 2147483647), []))) (.branch 387 (.leaf (387, 0, 12, .inl ((-2147483648), 2147483647), [])) (.branch 388 (.leaf (388, 0, 12, .inl ((-2147483648), 2147483647), [])) (.leaf (389, 0, 3, .inl (0, 12), []))))))) (.branch 404 (.branch 399 (.branch 393 (.branch 390 (.leaf (390, 0, 36, .inl (0, 11), [])) (.leaf (391, 0, 16, .inl ((-2147483648), 2147483647), []))) (.branch 398 (.leaf (394, 110, 7, .inr 3, [((3, []), .inr (.inl 398))])) (.leaf (399, 111, 2, .inr 3, [((0, []), .inr (.inl 399)), ((1, []), zaI)])))) (.branch 401 (.branch 400 (.leaf (400, 109, 9, .inr 3, [((0, []), .inr (.inl 366)), ((1, []), .inr (.inl 400)), ((2, []), .inr (.inl 403)), ((3, []), zaI), ((4, []), zaI), ((5, []), zaI), ((6, []), zaI), ((7, []), .inr (.inl 411)), ((8, []), .inr (.inl 412))])) (.leaf (401, 103, 5, .inr 3, [((0, []), zaI), ((1, []), .inr (.inr (.inr (.inl (0, 1))))), ((2, []), zaI), ((3, []), .inr (.inl 401)), ((4, []), .inr (.inl 402))]))) (.branch 402 (.leaf (402, 0, 2, .inl ((-2147483648), 2147483647), [])) (.branch 403 (.leaf (403, 0, 12, .inl ((-2147483648), 2147483647), [])) (.leaf (404, 107, 14, .inr 3, [((0, []), zaI), ((1, []), zaI), ((2, []), zaI), ((3, []), zaI), ((4, []), zaI), ((5, []), .inr (.inr (.inr (.inl (0, 1))))), ((6, []), .inr (.inr (.inr (.inl (0, 20))))), ((7, []), .inr (.inl 404)), ((8, []), .inr (.inl 405)), ((9, []), .inr (.inl 406)), ((10, []), .inr (.inl 407)), ((11, []), .inr (.inl 408)), ((12, []), .inr (.inl 409)), ((13, []), .inr (.inl 410))])))))) (.branch 408 (.branch 406 (.branch 405 (.leaf (405, 0, 20, .inl ((-2147483648), 2147483647), [])) (.leaf (406, 0, 2, .inl ((-2147483648), 2147483647), []))) (.branch 407 (.leaf (407, 0, 12, .inl ((-2147483648), 2147483647), [])) (.leaf (408, 0, 12, .inl ((-2147483648), 2147483647), [])))) (.branch 410 (.branch 409 (.leaf (409, 0, 3, .inl (0, 12), [])) (.leaf (410, 0, 36, .inl (0, 11), []))) (.branch 411 (.leaf (411, 0, 16, .inl ((-2147483648), 2147483647), [])) (.branch 412 (.leaf (412, 0, 2, .inl ((-2147483648), 2147483647), [])) (.leaf (413, 0, 3, .inl ((-2147483648), 2147483647), []))))))), zw_119, [], zp_119.map (fun p => p.1))
def zu_119 : List zCu := []
def zs_119 : List zCt := [zc_118]
theorem za_119 : zwin zw_119 zc_119.2.2.2.2.2.1 = true := by decide +kernel
theorem z0_119 : zst0 mi_P zw_119 [] [] (fun d y as t en => zcal zw_119 d y as t en zs_119) zc_119 zp_119 zu_119 474 = true := by decide +kernel
theorem zk_119 : zu_119.all (zck mi_P zc_119.2.1 zw_119 false [] [] (fun d y as t en => zcal zw_119 d y as t en zs_119) zc_119.2.2.2.1.length zc_119.2.2.2.1 zc_119.2.2.2.2.2.1 zp_119 zu_119 474) = true := by decide +kernel
theorem zt_119 {S : Nat × (Nat → Int32)} : zCtr mi_P S zTt zc_119 := by
  have hc : ∀ c ∈ zs_119, zCtr mi_P S zTt c := by
    intro c hc
    simp only [zs_119, List.mem_cons, List.not_mem_nil, or_false] at hc
    rcases hc with rfl
    · exact zt_118
  exact zCtr_of (Om := zTt) (ct := zc_119) (ps := zp_119) (fun _ _ _ _ => trivial) rfl hc za_119 z0_119 zk_119
