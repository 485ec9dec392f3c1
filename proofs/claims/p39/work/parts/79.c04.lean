/-- L$Course.oddsOf(I)I -/
def zw_5091 : zW := .branch 374 (.leaf (372, [0])) (.leaf (375, [0]))
def zp_5091 : List (zPo × List (Nat ⊕ (Nat × zL))) := [(([], [], [(371, []), (374, [])], some (.inr (.inr (.inr (.inl (0, 100)))))), [])]
def zc_5091 : zCt := (61, 3, [.inr (.inl 379), .inr (.inr (.inr (.inl (0, 3))))], [], [], .branch 376 (.branch 372 (.branch 370 (.leaf (367, 102, 11, .inr 3, [((1, []), .inr (.inl 370)), ((8, []), .inr (.inl 376))])) (.branch 371 (.leaf (371, 104, 7, .inr 3, [((0, []), .inr (.inl 371)), ((4, []), .inr (.inl 372)), ((5, []), .inr (.inl 373)), ((6, []), .inr (.inl 374))])) (.leaf (372, 0, 6, .inl ((-2147483648), 2147483647), [])))) (.branch 373 (.leaf (373, 0, 5, .inl (0, 540), [])) (.branch 374 (.leaf (374, 0, 540, .inr 1, [])) (.leaf (375, 0, 30, .inl ((-2147483648), 2147483647), []))))) (.branch 385 (.branch 379 (.leaf (377, 0, 12, .inl ((-2147483648), 2147483647), [])) (.branch 383 (.leaf (380, 109, 9, .inr 3, [((0, []), .inr (.inl 366)), ((2, []), .inr (.inl 383))])) (.leaf (384, 107, 14, .inr 3, [((1, []), zaI), ((4, []), zaI), ((5, []), .inr (.inr (.inr (.inl (0, 1))))), ((8, []), .inr (.inl 385)), ((11, []), .inr (.inl 388)), ((12, []), .inr (.inl 389)), ((13, []), .inr (.inl 390))])))) (.branch 389 (.branch 388 (.leaf (386, 0, 2, .inl ((-2147483648), 2147483647), [])) (.leaf (389, 0, 3, .inl (0, 12), []))) (.branch 390 (.leaf (390, 0, 36, .inl (0, 11), [])) (.leaf (391, 0, 16, .inl ((-2147483648), 2147483647), []))))), zw_5091, [], zp_5091.map (fun p => p.1))
def zu_5091 : List zCu := []
def zs_5091 : List zCt := [zc_5081, zc_5071]
theorem za_5091 : zwin zw_5091 zc_5091.2.2.2.2.2.1 = true := by decide +kernel
theorem z0_5091 : zst0 mi_P zw_5091 [] [] (fun d y as t en => zcal zw_5091 d y as t en zs_5091) zc_5091 zp_5091 zu_5091 832 = true := by decide +kernel
theorem zk_5091 : zu_5091.all (zck mi_P zc_5091.2.1 zw_5091 false [] [] (fun d y as t en => zcal zw_5091 d y as t en zs_5091) zc_5091.2.2.2.1.length zc_5091.2.2.2.1 zc_5091.2.2.2.2.2.1 zp_5091 zu_5091 832) = true := by decide +kernel
theorem zt_5091 {S : Nat × (Nat → Int32)} : zCtr mi_P S zTt zc_5091 := by
  have hc : ∀ c ∈ zs_5091, zCtr mi_P S zTt c := by
    intro c hc
    simp only [zs_5091, List.mem_cons, List.not_mem_nil, or_false] at hc
    rcases hc with rfl | rfl
    · exact zt_5081
    · exact zt_5071
  exact zCtr_of (Om := zTt) (ct := zc_5091) (ps := zp_5091) (fun _ _ _ _ => trivial) rfl hc za_5091 z0_5091 zk_5091
/-- L$Now.draw()I -/
def zw_5092 : zW := .leaf (404, [2])
def zp_5092 : List (zPo × List (Nat ⊕ (Nat × zL))) := [(([], [], [(403, [((2, []), zaI)])], some (.inr (.inr (.inr (.inl ((-99), 99)))))), [])]
def zc_5092 : zCt := (84, 0, [.inr (.inl 403)], [], [], .leaf (404, 107, 14, .inr 3, [((2, []), zaI)]), zw_5092, [], zp_5092.map (fun p => p.1))
def zu_5092 : List zCu := []
def zs_5092 : List zCt := []
theorem za_5092 : zwin zw_5092 zc_5092.2.2.2.2.2.1 = true := by decide +kernel
theorem z0_5092 : zst0 mi_P zw_5092 [] [] (fun d y as t en => zcal zw_5092 d y as t en zs_5092) zc_5092 zp_5092 zu_5092 228 = true := by decide +kernel
theorem zk_5092 : zu_5092.all (zck mi_P zc_5092.2.1 zw_5092 false [] [] (fun d y as t en => zcal zw_5092 d y as t en zs_5092) zc_5092.2.2.2.1.length zc_5092.2.2.2.1 zc_5092.2.2.2.2.2.1 zp_5092 zu_5092 228) = true := by decide +kernel
theorem zt_5092 {S : Nat × (Nat → Int32)} : zCtr mi_P S zTt zc_5092 := by
  have hc : ∀ c ∈ zs_5092, zCtr mi_P S zTt c := fun c hc => by cases hc
  exact zCtr_of (Om := zTt) (ct := zc_5092) (ps := zp_5092) (fun _ _ _ _ => trivial) rfl hc za_5092 z0_5092 zk_5092
/-- L$Now.leaveRow(II)V -/
def zw_5093 : zW := .branch 409 (.leaf (409, [0])) (.leaf (410, [0]))
def zp_5093 : List (zPo × List (Nat ⊕ (Nat × zL))) := [(([], [], [(408, []), (409, [])], none), [])]
def zc_5093 : zCt := (86, 0, [.inr (.inl 403), .inl (2, []), zaI], [], [], .branch 408 (.leaf (404, 107, 14, .inr 3, [((11, []), .inr (.inl 408)), ((12, []), .inr (.inl 409))])) (.branch 409 (.leaf (409, 0, 3, .inl (0, 12), [])) (.leaf (410, 0, 36, .inl (0, 11), []))), zw_5093, [], zp_5093.map (fun p => p.1))
def zu_5093 : List zCu := [(([(86, 8, [(5, .inl (0, [(1, 1)])), (4, .inl (24, [])), (3, .inl (0, [(2, 1)])), (0, .inr (.inl 403)), (1, .inl (2, [])), (2, .inl (0, [(0, 1)]))], [])], .branch 408 (.leaf (404, 107, 14, .inr 3, [((11, []), .inr (.inl 408)), ((12, []), .inr (.inl 409))])) (.branch 409 (.leaf (409, 0, 3, .inl (0, 12), [])) (.leaf (410, 0, 36, .inl (0, 11), []))), [((-2147483648), 2147483647), (0, 12), (0, 12)], [(0, [(1, (-1)), (2, 1)])], []), [.inl (0, 2), .inl (0, 5), .inl (0, 3)], (12, [(1, (-1))]))]
def zs_5093 : List zCt := []
theorem za_5093 : zwin zw_5093 zc_5093.2.2.2.2.2.1 = true := by decide +kernel
theorem z0_5093 : zst0 mi_P zw_5093 [] [] (fun d y as t en => zcal zw_5093 d y as t en zs_5093) zc_5093 zp_5093 zu_5093 272 = true := by decide +kernel
theorem zk_5093 : zu_5093.all (zck mi_P zc_5093.2.1 zw_5093 false [] [] (fun d y as t en => zcal zw_5093 d y as t en zs_5093) zc_5093.2.2.2.1.length zc_5093.2.2.2.1 zc_5093.2.2.2.2.2.1 zp_5093 zu_5093 272) = true := by decide +kernel
theorem zt_5093 {S : Nat × (Nat → Int32)} : zCtr mi_P S zTt zc_5093 := by
  have hc : ∀ c ∈ zs_5093, zCtr mi_P S zTt c := fun c hc => by cases hc
  exact zCtr_of (Om := zTt) (ct := zc_5093) (ps := zp_5093) (fun _ _ _ _ => trivial) rfl hc za_5093 z0_5093 zk_5093
/-- L$Now.leaveRow(II)V -/
def zw_5094 : zW := .branch 409 (.leaf (409, [0])) (.leaf (410, [0]))
def zp_5094 : List (zPo × List (Nat ⊕ (Nat × zL))) := [(([], [], [(408, []), (409, [])], none), [])]
def zc_5094 : zCt := (86, 0, [.inr (.inl 403), .inl (0, []), zaI], [], [], .branch 408 (.leaf (404, 107, 14, .inr 3, [((11, []), .inr (.inl 408)), ((12, []), .inr (.inl 409))])) (.branch 409 (.leaf (409, 0, 3, .inl (0, 12), [])) (.leaf (410, 0, 36, .inl (0, 11), []))), zw_5094, [], zp_5094.map (fun p => p.1))
def zu_5094 : List zCu := [(([(86, 8, [(5, .inl (0, [(1, 1)])), (4, .inl (0, [])), (3, .inl (0, [(2, 1)])), (0, .inr (.inl 403)), (1, .inl (0, [])), (2, .inl (0, [(0, 1)]))], [])], .branch 408 (.leaf (404, 107, 14, .inr 3, [((11, []), .inr (.inl 408)), ((12, []), .inr (.inl 409))])) (.branch 409 (.leaf (409, 0, 3, .inl (0, 12), [])) (.leaf (410, 0, 36, .inl (0, 11), []))), [((-2147483648), 2147483647), (0, 12), (0, 12)], [(0, [(1, (-1)), (2, 1)])], []), [.inl (0, 2), .inl (0, 5), .inl (0, 3)], (12, [(1, (-1))]))]
def zs_5094 : List zCt := []
theorem za_5094 : zwin zw_5094 zc_5094.2.2.2.2.2.1 = true := by decide +kernel
theorem z0_5094 : zst0 mi_P zw_5094 [] [] (fun d y as t en => zcal zw_5094 d y as t en zs_5094) zc_5094 zp_5094 zu_5094 272 = true := by decide +kernel
theorem zk_5094 : zu_5094.all (zck mi_P zc_5094.2.1 zw_5094 false [] [] (fun d y as t en => zcal zw_5094 d y as t en zs_5094) zc_5094.2.2.2.1.length zc_5094.2.2.2.1 zc_5094.2.2.2.2.2.1 zp_5094 zu_5094 272) = true := by decide +kernel
theorem zt_5094 {S : Nat × (Nat → Int32)} : zCtr mi_P S zTt zc_5094 := by
  have hc : ∀ c ∈ zs_5094, zCtr mi_P S zTt c := fun c hc => by cases hc
  exact zCtr_of (Om := zTt) (ct := zc_5094) (ps := zp_5094) (fun _ _ _ _ => trivial) rfl hc za_5094 z0_5094 zk_5094
/-- L$Now.leaveRow(II)V -/
def zw_5095 : zW := .branch 409 (.leaf (409, [0])) (.leaf (410, [0]))
def zp_5095 : List (zPo × List (Nat ⊕ (Nat × zL))) := [(([], [], [(408, []), (409, [])], none), [])]
def zc_5095 : zCt := (86, 0, [.inr (.inl 403), .inl (1, []), zaI], [], [], .branch 408 (.leaf (404, 107, 14, .inr 3, [((11, []), .inr (.inl 408)), ((12, []), .inr (.inl 409))])) (.branch 409 (.leaf (409, 0, 3, .inl (0, 12), [])) (.leaf (410, 0, 36, .inl (0, 11), []))), zw_5095, [], zp_5095.map (fun p => p.1))
def zu_5095 : List zCu := [(([(86, 8, [(5, .inl (0, [(1, 1)])), (4, .inl (12, [])), (3, .inl (0, [(2, 1)])), (0, .inr (.inl 403)), (1, .inl (1, [])), (2, .inl (0, [(0, 1)]))], [])], .branch 408 (.leaf (404, 107, 14, .inr 3, [((11, []), .inr (.inl 408)), ((12, []), .inr (.inl 409))])) (.branch 409 (.leaf (409, 0, 3, .inl (0, 12), [])) (.leaf (410, 0, 36, .inl (0, 11), []))), [((-2147483648), 2147483647), (0, 12), (0, 12)], [(0, [(1, (-1)), (2, 1)])], []), [.inl (0, 2), .inl (0, 5), .inl (0, 3)], (12, [(1, (-1))]))]
def zs_5095 : List zCt := []
theorem za_5095 : zwin zw_5095 zc_5095.2.2.2.2.2.1 = true := by decide +kernel
theorem z0_5095 : zst0 mi_P zw_5095 [] [] (fun d y as t en => zcal zw_5095 d y as t en zs_5095) zc_5095 zp_5095 zu_5095 272 = true := by decide +kernel
theorem zk_5095 : zu_5095.all (zck mi_P zc_5095.2.1 zw_5095 false [] [] (fun d y as t en => zcal zw_5095 d y as t en zs_5095) zc_5095.2.2.2.1.length zc_5095.2.2.2.1 zc_5095.2.2.2.2.2.1 zp_5095 zu_5095 272) = true := by decide +kernel
theorem zt_5095 {S : Nat × (Nat → Int32)} : zCtr mi_P S zTt zc_5095 := by
  have hc : ∀ c ∈ zs_5095, zCtr mi_P S zTt c := fun c hc => by cases hc
  exact zCtr_of (Om := zTt) (ct := zc_5095) (ps := zp_5095) (fun _ _ _ _ => trivial) rfl hc za_5095 z0_5095 zk_5095
/-- L$Now.noteOnBoard(I)V -/
def zw_5096 : zW := .branch 404 (.leaf (404, [6])) (.leaf (405, [0]))
def zp_5096 : List (zPo × List (Nat ⊕ (Nat × zL))) := [(([], [], [(403, [((6, []), .inr (.inr (.inr (.inl (0, 20)))))]), (404, [])], none), [])]
def zc_5096 : zCt := (85, 0, [.inr (.inl 403), zaI], [], [], .branch 404 (.leaf (404, 107, 14, .inr 3, [((6, []), .inr (.inr (.inr (.inl (0, 20))))), ((7, []), .inr (.inl 404))])) (.leaf (405, 0, 20, .inl ((-2147483648), 2147483647), [])), zw_5096, [], zp_5096.map (fun p => p.1))
def zu_5096 : List zCu := [(([(85, 2, [(2, .inl (0, [(1, 1)])), (0, .inr (.inl 403)), (1, .inl (0, [(0, 1)]))], [])], .branch 404 (.leaf (404, 107, 14, .inr 3, [((6, []), .inr (.inr (.inr (.inl (0, 20))))), ((7, []), .inr (.inl 404))])) (.leaf (405, 0, 20, .inl ((-2147483648), 2147483647), [])), [((-2147483648), 2147483647), (0, 19)], [], []), [.inl (0, 1), .inl (0, 2)], (0, [(1, 1)]))]
def zs_5096 : List zCt := []
theorem za_5096 : zwin zw_5096 zc_5096.2.2.2.2.2.1 = true := by decide +kernel
theorem z0_5096 : zst0 mi_P zw_5096 [] [] (fun d y as t en => zcal zw_5096 d y as t en zs_5096) zc_5096 zp_5096 zu_5096 254 = true := by decide +kernel
theorem zk_5096 : zu_5096.all (zck mi_P zc_5096.2.1 zw_5096 false [] [] (fun d y as t en => zcal zw_5096 d y as t en zs_5096) zc_5096.2.2.2.1.length zc_5096.2.2.2.1 zc_5096.2.2.2.2.2.1 zp_5096 zu_5096 254) = true := by decide +kernel
theorem zt_5096 {S : Nat × (Nat → Int32)} : zCtr mi_P S zTt zc_5096 := by
  have hc : ∀ c ∈ zs_5096, zCtr mi_P S zTt c := fun c hc => by cases hc
  exact zCtr_of (Om := zTt) (ct := zc_5096) (ps := zp_5096) (fun _ _ _ _ => trivial) rfl hc za_5096 z0_5096 zk_5096
/-- L$Course.come()V -/
def zw_5097 : zW := .branch 408 (.leaf (407, [0])) (.branch 409 (.leaf (409, [0])) (.leaf (410, [0])))
def zp_5097 : List (zPo × List (Nat ⊕ (Nat × zL))) := [(([], [], [(406, []), (408, []), (409, [])], none), [])]
def zc_5097 : zCt := (79, 1, [.inr (.inl 399)], [], [], .branch 402 (.branch 399 (.branch 378 (.leaf (367, 102, 11, .inr 3, [((7, []), .inr (.inr (.inr (.inl (0, 12))))), ((10, []), .inr (.inl 378))])) (.leaf (379, 0, 12, .inl ((-2147483648), 2147483647), []))) (.branch 400 (.leaf (400, 109, 9, .inr 3, [((0, []), .inr (.inl 366)), ((1, []), .inr (.inl 400)), ((2, []), .inr (.inl 403))])) (.leaf (401, 103, 5, .inr 3, [((4, []), .inr (.inl 402))])))) (.branch 406 (.branch 403 (.leaf (403, 0, 12, .inl ((-2147483648), 2147483647), [])) (.leaf (404, 107, 14, .inr 3, [((0, []), zaI), ((9, []), .inr (.inl 406)), ((11, []), .inr (.inl 408)), ((12, []), .inr (.inl 409))]))) (.branch 408 (.leaf (407, 0, 12, .inl ((-2147483648), 2147483647), [])) (.branch 409 (.leaf (409, 0, 3, .inl (0, 12), [])) (.leaf (410, 0, 36, .inl (0, 11), []))))), zw_5097, [], zp_5097.map (fun p => p.1))
def zu_5097 : List zCu := [(([(79, 2, [(1, .inl (0, [(0, 1)])), (0, .inr (.inl 399))], [])], .branch 402 (.branch 399 (.branch 378 (.leaf (367, 102, 11, .inr 3, [((7, []), .inr (.inr (.inr (.inl (0, 12))))), ((10, []), .inr (.inl 378))])) (.leaf (379, 0, 12, .inl ((-2147483648), 2147483647), []))) (.branch 400 (.leaf (400, 109, 9, .inr 3, [((0, []), .inr (.inl 366)), ((1, []), .inr (.inl 400)), ((2, []), .inr (.inl 403))])) (.leaf (401, 103, 5, .inr 3, [((4, []), .inr (.inl 402))])))) (.branch 406 (.branch 403 (.leaf (403, 0, 12, .inl ((-2147483648), 2147483647), [])) (.leaf (404, 107, 14, .inr 3, [((0, []), zaI), ((9, []), .inr (.inl 406)), ((11, []), .inr (.inl 408)), ((12, []), .inr (.inl 409))]))) (.branch 408 (.leaf (407, 0, 12, .inl ((-2147483648), 2147483647), [])) (.branch 409 (.leaf (409, 0, 3, .inl (0, 12), [])) (.leaf (410, 0, 36, .inl (0, 11), []))))), [(0, 12)], [], []), [.inl (0, 1)], (12, [(0, (-1))]))]
def zs_5097 : List zCt := []
theorem za_5097 : zwin zw_5097 zc_5097.2.2.2.2.2.1 = true := by decide +kernel
theorem z0_5097 : zst0 mi_P zw_5097 [] [] (fun d y as t en => zcal zw_5097 d y as t en zs_5097) zc_5097 zp_5097 zu_5097 420 = true := by decide +kernel
theorem zk_5097 : zu_5097.all (zck mi_P zc_5097.2.1 zw_5097 false [] [] (fun d y as t en => zcal zw_5097 d y as t en zs_5097) zc_5097.2.2.2.1.length zc_5097.2.2.2.1 zc_5097.2.2.2.2.2.1 zp_5097 zu_5097 420) = true := by decide +kernel
theorem zt_5097 {S : Nat × (Nat → Int32)} : zCtr mi_P S zTt zc_5097 := by
  have hc : ∀ c ∈ zs_5097, zCtr mi_P S zTt c := fun c hc => by cases hc
  exact zCtr_of (Om := zTt) (ct := zc_5097) (ps := zp_5097) (fun _ _ _ _ => trivial) rfl hc za_5097 z0_5097 zk_5097
/-- L$Course.firstInLock(I)I -/
def zw_5098 : zW := .leaf (0, [])
def zp_5098 : List (zPo × List (Nat ⊕ (Nat × zL))) := [(([], [], [], some (.inr (.inr (.inr (.inl ((-1), 11)))))), [])]
def zc_5098 : zCt := (82, 1, [.inr (.inl 399), .inl (0, [])], [], [], .branch 403 (.branch 378 (.leaf (367, 102, 11, .inr 3, [((10, []), .inr (.inl 378))])) (.branch 399 (.leaf (379, 0, 12, .inl ((-2147483648), 2147483647), [])) (.leaf (400, 109, 9, .inr 3, [((0, []), .inr (.inl 366)), ((2, []), .inr (.inl 403))])))) (.branch 408 (.leaf (404, 107, 14, .inr 3, [((11, []), .inr (.inl 408)), ((12, []), .inr (.inl 409))])) (.branch 409 (.leaf (409, 0, 3, .inl (0, 12), [])) (.leaf (410, 0, 36, .inl (0, 11), [])))), zw_5098, [], zp_5098.map (fun p => p.1))
def zu_5098 : List zCu := [(([(82, 2, [(2, .inl (0, [(0, 1)])), (0, .inr (.inl 399)), (1, .inl (0, []))], [])], .branch 403 (.branch 378 (.leaf (367, 102, 11, .inr 3, [((10, []), .inr (.inl 378))])) (.branch 399 (.leaf (379, 0, 12, .inl ((-2147483648), 2147483647), [])) (.leaf (400, 109, 9, .inr 3, [((0, []), .inr (.inl 366)), ((2, []), .inr (.inl 403))])))) (.branch 408 (.leaf (404, 107, 14, .inr 3, [((11, []), .inr (.inl 408)), ((12, []), .inr (.inl 409))])) (.branch 409 (.leaf (409, 0, 3, .inl (0, 12), [])) (.leaf (410, 0, 36, .inl (0, 11), [])))), [(0, 12)], [], []), [.inl (0, 2)], (12, [(0, (-1))]))]
def zs_5098 : List zCt := []
theorem za_5098 : zwin zw_5098 zc_5098.2.2.2.2.2.1 = true := by decide +kernel
theorem z0_5098 : zst0 mi_P zw_5098 [] [] (fun d y as t en => zcal zw_5098 d y as t en zs_5098) zc_5098 zp_5098 zu_5098 282 = true := by decide +kernel
theorem zk_5098 : zu_5098.all (zck mi_P zc_5098.2.1 zw_5098 false [] [] (fun d y as t en => zcal zw_5098 d y as t en zs_5098) zc_5098.2.2.2.1.length zc_5098.2.2.2.1 zc_5098.2.2.2.2.2.1 zp_5098 zu_5098 282) = true := by decide +kernel
theorem zt_5098 {S : Nat × (Nat → Int32)} : zCtr mi_P S zTt zc_5098 := by
  have hc : ∀ c ∈ zs_5098, zCtr mi_P S zTt c := fun c hc => by cases hc
  exact zCtr_of (Om := zTt) (ct := zc_5098) (ps := zp_5098) (fun _ _ _ _ => trivial) rfl hc za_5098 z0_5098 zk_5098
/-- L$Course.firstInLock(I)I -/
def zw_5099 : zW := .leaf (0, [])
def zp_5099 : List (zPo × List (Nat ⊕ (Nat × zL))) := [(([], [], [], some (.inr (.inr (.inr (.inl ((-1), 11)))))), [])]
def zc_5099 : zCt := (82, 1, [.inr (.inl 399), .inl (1, [])], [], [], .branch 403 (.branch 378 (.leaf (367, 102, 11, .inr 3, [((10, []), .inr (.inl 378))])) (.branch 399 (.leaf (379, 0, 12, .inl ((-2147483648), 2147483647), [])) (.leaf (400, 109, 9, .inr 3, [((0, []), .inr (.inl 366)), ((2, []), .inr (.inl 403))])))) (.branch 408 (.leaf (404, 107, 14, .inr 3, [((11, []), .inr (.inl 408)), ((12, []), .inr (.inl 409))])) (.branch 409 (.leaf (409, 0, 3, .inl (0, 12), [])) (.leaf (410, 0, 36, .inl (0, 11), [])))), zw_5099, [], zp_5099.map (fun p => p.1))
def zu_5099 : List zCu := [(([(82, 2, [(2, .inl (0, [(0, 1)])), (0, .inr (.inl 399)), (1, .inl (1, []))], [])], .branch 403 (.branch 378 (.leaf (367, 102, 11, .inr 3, [((10, []), .inr (.inl 378))])) (.branch 399 (.leaf (379, 0, 12, .inl ((-2147483648), 2147483647), [])) (.leaf (400, 109, 9, .inr 3, [((0, []), .inr (.inl 366)), ((2, []), .inr (.inl 403))])))) (.branch 408 (.leaf (404, 107, 14, .inr 3, [((11, []), .inr (.inl 408)), ((12, []), .inr (.inl 409))])) (.branch 409 (.leaf (409, 0, 3, .inl (0, 12), [])) (.leaf (410, 0, 36, .inl (0, 11), [])))), [(0, 12)], [], []), [.inl (0, 2)], (12, [(0, (-1))]))]
def zs_5099 : List zCt := []
theorem za_5099 : zwin zw_5099 zc_5099.2.2.2.2.2.1 = true := by decide +kernel
theorem z0_5099 : zst0 mi_P zw_5099 [] [] (fun d y as t en => zcal zw_5099 d y as t en zs_5099) zc_5099 zp_5099 zu_5099 282 = true := by decide +kernel
theorem zk_5099 : zu_5099.all (zck mi_P zc_5099.2.1 zw_5099 false [] [] (fun d y as t en => zcal zw_5099 d y as t en zs_5099) zc_5099.2.2.2.1.length zc_5099.2.2.2.1 zc_5099.2.2.2.2.2.1 zp_5099 zu_5099 282) = true := by decide +kernel
theorem zt_5099 {S : Nat × (Nat → Int32)} : zCtr mi_P S zTt zc_5099 := by
  have hc : ∀ c ∈ zs_5099, zCtr mi_P S zTt c := fun c hc => by cases hc
  exact zCtr_of (Om := zTt) (ct := zc_5099) (ps := zp_5099) (fun _ _ _ _ => trivial) rfl hc za_5099 z0_5099 zk_5099
/-- L$Course.seatsTaken()I -/
def zw_5100 : zW := .leaf (0, [])
def zp_5100 : List (zPo × List (Nat ⊕ (Nat × zL))) := [(([], [], [], some (zaI)), [])]
def zc_5100 : zCt := (88, 1, [.inr (.inl 399)], [], [], .branch 403 (.branch 377 (.leaf (367, 102, 11, .inr 3, [((9, []), .inr (.inl 377))])) (.branch 399 (.leaf (378, 0, 12, .inl ((-2147483648), 2147483647), [])) (.leaf (400, 109, 9, .inr 3, [((0, []), .inr (.inl 366)), ((2, []), .inr (.inl 403))])))) (.branch 408 (.leaf (404, 107, 14, .inr 3, [((11, []), .inr (.inl 408)), ((12, []), .inr (.inl 409))])) (.branch 409 (.leaf (409, 0, 3, .inl (0, 12), [])) (.leaf (410, 0, 36, .inl (0, 11), [])))), zw_5100, [], zp_5100.map (fun p => p.1))
def zu_5100 : List zCu := [(([(88, 4, [(2, .inl (0, [(0, 1)])), (1, .inl (0, [(1, 1)])), (0, .inr (.inl 399))], [])], .branch 403 (.branch 377 (.leaf (367, 102, 11, .inr 3, [((9, []), .inr (.inl 377))])) (.branch 399 (.leaf (378, 0, 12, .inl ((-2147483648), 2147483647), [])) (.leaf (400, 109, 9, .inr 3, [((0, []), .inr (.inl 366)), ((2, []), .inr (.inl 403))])))) (.branch 408 (.leaf (404, 107, 14, .inr 3, [((11, []), .inr (.inl 408)), ((12, []), .inr (.inl 409))])) (.branch 409 (.leaf (409, 0, 3, .inl (0, 12), [])) (.leaf (410, 0, 36, .inl (0, 11), [])))), [(0, 12), ((-2147483648), 2147483647)], [], []), [.inl (0, 2), .inl (0, 1)], (12, [(0, (-1))]))]
def zs_5100 : List zCt := []
theorem za_5100 : zwin zw_5100 zc_5100.2.2.2.2.2.1 = true := by decide +kernel
theorem z0_5100 : zst0 mi_P zw_5100 [] [] (fun d y as t en => zcal zw_5100 d y as t en zs_5100) zc_5100 zp_5100 zu_5100 278 = true := by decide +kernel
theorem zk_5100 : zu_5100.all (zck mi_P zc_5100.2.1 zw_5100 false [] [] (fun d y as t en => zcal zw_5100 d y as t en zs_5100) zc_5100.2.2.2.1.length zc_5100.2.2.2.1 zc_5100.2.2.2.2.2.1 zp_5100 zu_5100 278) = true := by decide +kernel
theorem zt_5100 {S : Nat × (Nat → Int32)} : zCtr mi_P S zTt zc_5100 := by
  have hc : ∀ c ∈ zs_5100, zCtr mi_P S zTt c := fun c hc => by cases hc
  exact zCtr_of (Om := zTt) (ct := zc_5100) (ps := zp_5100) (fun _ _ _ _ => trivial) rfl hc za_5100 z0_5100 zk_5100
/-- L$Course.headsInLock()I -/
def zw_5101 : zW := .leaf (0, [])
def zp_5101 : List (zPo × List (Nat ⊕ (Nat × zL))) := [(([], [], [], some (zaI)), [])]
def zc_5101 : zCt := (64, 1, [.inr (.inl 399)], [], [], .branch 403 (.branch 376 (.leaf (367, 102, 11, .inr 3, [((8, []), .inr (.inl 376))])) (.branch 399 (.leaf (377, 0, 12, .inl ((-2147483648), 2147483647), [])) (.leaf (400, 109, 9, .inr 3, [((0, []), .inr (.inl 366)), ((2, []), .inr (.inl 403))])))) (.branch 408 (.leaf (404, 107, 14, .inr 3, [((11, []), .inr (.inl 408)), ((12, []), .inr (.inl 409))])) (.branch 409 (.leaf (409, 0, 3, .inl (0, 12), [])) (.leaf (410, 0, 36, .inl (0, 11), [])))), zw_5101, [], zp_5101.map (fun p => p.1))
def zu_5101 : List zCu := [(([(64, 4, [(2, .inl (0, [(0, 1)])), (1, .inl (0, [(1, 1)])), (0, .inr (.inl 399))], [])], .branch 403 (.branch 376 (.leaf (367, 102, 11, .inr 3, [((8, []), .inr (.inl 376))])) (.branch 399 (.leaf (377, 0, 12, .inl ((-2147483648), 2147483647), [])) (.leaf (400, 109, 9, .inr 3, [((0, []), .inr (.inl 366)), ((2, []), .inr (.inl 403))])))) (.branch 408 (.leaf (404, 107, 14, .inr 3, [((11, []), .inr (.inl 408)), ((12, []), .inr (.inl 409))])) (.branch 409 (.leaf (409, 0, 3, .inl (0, 12), [])) (.leaf (410, 0, 36, .inl (0, 11), [])))), [(0, 12), ((-2147483648), 2147483647)], [], []), [.inl (0, 2), .inl (0, 1)], (12, [(0, (-1))]))]
def zs_5101 : List zCt := []
theorem za_5101 : zwin zw_5101 zc_5101.2.2.2.2.2.1 = true := by decide +kernel
theorem z0_5101 : zst0 mi_P zw_5101 [] [] (fun d y as t en => zcal zw_5101 d y as t en zs_5101) zc_5101 zp_5101 zu_5101 278 = true := by decide +kernel
theorem zk_5101 : zu_5101.all (zck mi_P zc_5101.2.1 zw_5101 false [] [] (fun d y as t en => zcal zw_5101 d y as t en zs_5101) zc_5101.2.2.2.1.length zc_5101.2.2.2.1 zc_5101.2.2.2.2.2.1 zp_5101 zu_5101 278) = true := by decide +kernel
theorem zt_5101 {S : Nat × (Nat → Int32)} : zCtr mi_P S zTt zc_5101 := by
  have hc : ∀ c ∈ zs_5101, zCtr mi_P S zTt c := fun c hc => by cases hc
  exact zCtr_of (Om := zTt) (ct := zc_5101) (ps := zp_5101) (fun _ _ _ _ => trivial) rfl hc za_5101 z0_5101 zk_5101
/-- L$Course.pass(II)Z -/
def zw_5102 : zW := .branch 404 (.branch 403 (.leaf (400, [3, 4, 5])) (.leaf (404, [2, 6]))) (.branch 405 (.leaf (405, [0])) (.leaf (406, [0])))
def zp_5102 : List (zPo × List (Nat ⊕ (Nat × zL))) := [(([], [], [(399, [((3, []), zaI), ((4, []), zaI), ((5, []), zaI)]), (403, [((2, []), zaI), ((6, []), .inr (.inr (.inr (.inl (0, 20)))))]), (404, []), (405, [])], some (.inr (.inr (.inr (.inl (0, 1)))))), [])]
def zc_5102 : zCt := (83, 1, [.inr (.inl 399), .inl (0, []), .inr (.inr (.inr (.inl (0, 11))))], [], [], .branch 403 (.branch 400 (.leaf (400, 109, 9, .inr 3, [((1, []), .inr (.inl 400)), ((2, []), .inr (.inl 403)), ((3, []), zaI), ((4, []), zaI), ((5, []), zaI)])) (.branch 401 (.leaf (401, 103, 5, .inr 3, [((1, []), .inr (.inr (.inr (.inl (0, 1))))), ((2, []), zaI), ((3, []), .inr (.inl 401))])) (.leaf (402, 0, 2, .inl ((-2147483648), 2147483647), [])))) (.branch 404 (.leaf (404, 107, 14, .inr 3, [((2, []), zaI), ((6, []), .inr (.inr (.inr (.inl (0, 20))))), ((7, []), .inr (.inl 404)), ((8, []), .inr (.inl 405))])) (.branch 405 (.leaf (405, 0, 20, .inl ((-2147483648), 2147483647), [])) (.leaf (406, 0, 2, .inl ((-2147483648), 2147483647), [])))), zw_5102, [], zp_5102.map (fun p => p.1))
def zu_5102 : List zCu := []
def zs_5102 : List zCt := [zc_5092, zc_5096]
theorem za_5102 : zwin zw_5102 zc_5102.2.2.2.2.2.1 = true := by decide +kernel
theorem z0_5102 : zst0 mi_P zw_5102 [] [] (fun d y as t en => zcal zw_5102 d y as t en zs_5102) zc_5102 zp_5102 zu_5102 378 = true := by decide +kernel
theorem zk_5102 : zu_5102.all (zck mi_P zc_5102.2.1 zw_5102 false [] [] (fun d y as t en => zcal zw_5102 d y as t en zs_5102) zc_5102.2.2.2.1.length zc_5102.2.2.2.1 zc_5102.2.2.2.2.2.1 zp_5102 zu_5102 378) = true := by decide +kernel
theorem zt_5102 {S : Nat × (Nat → Int32)} : zCtr mi_P S zTt zc_5102 := by
  have hc : ∀ c ∈ zs_5102, zCtr mi_P S zTt c := by
    intro c hc
    simp only [zs_5102, List.mem_cons, List.not_mem_nil, or_false] at hc
    rcases hc with rfl | rfl
    · exact zt_5092
    · exact zt_5096
  exact zCtr_of (Om := zTt) (ct := zc_5102) (ps := zp_5102) (fun _ _ _ _ => trivial) rfl hc za_5102 z0_5102 zk_5102
/-- L$Course.pass(II)Z -/
def zw_5103 : zW := .branch 404 (.branch 403 (.leaf (400, [3, 4, 5])) (.leaf (404, [2, 6]))) (.branch 405 (.leaf (405, [0])) (.leaf (406, [0])))
def zp_5103 : List (zPo × List (Nat ⊕ (Nat × zL))) := [(([], [], [(399, [((3, []), zaI), ((4, []), zaI), ((5, []), zaI)]), (403, [((2, []), zaI), ((6, []), .inr (.inr (.inr (.inl (0, 20)))))]), (404, []), (405, [])], some (.inr (.inr (.inr (.inl (0, 1)))))), [])]
def zc_5103 : zCt := (83, 1, [.inr (.inl 399), .inl (1, []), .inr (.inr (.inr (.inl (0, 11))))], [], [], .branch 403 (.branch 400 (.leaf (400, 109, 9, .inr 3, [((1, []), .inr (.inl 400)), ((2, []), .inr (.inl 403)), ((3, []), zaI), ((4, []), zaI), ((5, []), zaI)])) (.branch 401 (.leaf (401, 103, 5, .inr 3, [((1, []), .inr (.inr (.inr (.inl (0, 1))))), ((2, []), zaI), ((3, []), .inr (.inl 401))])) (.leaf (402, 0, 2, .inl ((-2147483648), 2147483647), [])))) (.branch 404 (.leaf (404, 107, 14, .inr 3, [((2, []), zaI), ((6, []), .inr (.inr (.inr (.inl (0, 20))))), ((7, []), .inr (.inl 404)), ((8, []), .inr (.inl 405))])) (.branch 405 (.leaf (405, 0, 20, .inl ((-2147483648), 2147483647), [])) (.leaf (406, 0, 2, .inl ((-2147483648), 2147483647), [])))), zw_5103, [], zp_5103.map (fun p => p.1))
def zu_5103 : List zCu := []
def zs_5103 : List zCt := [zc_5092, zc_5096]
theorem za_5103 : zwin zw_5103 zc_5103.2.2.2.2.2.1 = true := by decide +kernel
theorem z0_5103 : zst0 mi_P zw_5103 [] [] (fun d y as t en => zcal zw_5103 d y as t en zs_5103) zc_5103 zp_5103 zu_5103 376 = true := by decide +kernel
theorem zk_5103 : zu_5103.all (zck mi_P zc_5103.2.1 zw_5103 false [] [] (fun d y as t en => zcal zw_5103 d y as t en zs_5103) zc_5103.2.2.2.1.length zc_5103.2.2.2.1 zc_5103.2.2.2.2.2.1 zp_5103 zu_5103 376) = true := by decide +kernel
theorem zt_5103 {S : Nat × (Nat → Int32)} : zCtr mi_P S zTt zc_5103 := by
  have hc : ∀ c ∈ zs_5103, zCtr mi_P S zTt c := by
    intro c hc
    simp only [zs_5103, List.mem_cons, List.not_mem_nil, or_false] at hc
    rcases hc with rfl | rfl
    · exact zt_5092
    · exact zt_5096
  exact zCtr_of (Om := zTt) (ct := zc_5103) (ps := zp_5103) (fun _ _ _ _ => trivial) rfl hc za_5103 z0_5103 zk_5103
/-- L$Course.leaveLock(II)V -/
def zw_5104 : zW := .branch 405 (.branch 403 (.leaf (400, [3, 4, 5])) (.branch 404 (.leaf (404, [2, 6])) (.leaf (405, [0])))) (.branch 408 (.branch 406 (.leaf (406, [0])) (.leaf (407, [0]))) (.branch 409 (.leaf (409, [0])) (.leaf (410, [0]))))
def zp_5104 : List (zPo × List (Nat ⊕ (Nat × zL))) := [(([], [], [(399, [((3, []), zaI), ((4, []), zaI), ((5, []), zaI)]), (403, [((2, []), zaI), ((6, []), .inr (.inr (.inr (.inl (0, 20)))))]), (404, []), (405, []), (406, []), (408, []), (409, [])], none), [])]
def zc_5104 : zCt := (81, 2, [.inr (.inl 399), .inl (1, []), .inl (1, [])], [], [], .branch 403 (.branch 399 (.branch 378 (.leaf (367, 102, 11, .inr 3, [((10, []), .inr (.inl 378))])) (.leaf (379, 0, 12, .inl ((-2147483648), 2147483647), []))) (.branch 400 (.leaf (400, 109, 9, .inr 3, [((0, []), .inr (.inl 366)), ((1, []), .inr (.inl 400)), ((2, []), .inr (.inl 403)), ((3, []), zaI), ((4, []), zaI), ((5, []), zaI)])) (.branch 401 (.leaf (401, 103, 5, .inr 3, [((1, []), .inr (.inr (.inr (.inl (0, 1))))), ((2, []), zaI), ((3, []), .inr (.inl 401))])) (.leaf (402, 0, 2, .inl ((-2147483648), 2147483647), []))))) (.branch 406 (.branch 404 (.leaf (404, 107, 14, .inr 3, [((2, []), zaI), ((6, []), .inr (.inr (.inr (.inl (0, 20))))), ((7, []), .inr (.inl 404)), ((8, []), .inr (.inl 405)), ((9, []), .inr (.inl 406)), ((11, []), .inr (.inl 408)), ((12, []), .inr (.inl 409))])) (.branch 405 (.leaf (405, 0, 20, .inl ((-2147483648), 2147483647), [])) (.leaf (406, 0, 2, .inl ((-2147483648), 2147483647), [])))) (.branch 408 (.leaf (407, 0, 12, .inl ((-2147483648), 2147483647), [])) (.branch 409 (.leaf (409, 0, 3, .inl (0, 12), [])) (.leaf (410, 0, 36, .inl (0, 11), []))))), zw_5104, [], zp_5104.map (fun p => p.1))
def zu_5104 : List zCu := []
def zs_5104 : List zCt := [zc_5099, zc_5103, zc_5093]
theorem za_5104 : zwin zw_5104 zc_5104.2.2.2.2.2.1 = true := by decide +kernel
theorem z0_5104 : zst0 mi_P zw_5104 [] [] (fun d y as t en => zcal zw_5104 d y as t en zs_5104) zc_5104 zp_5104 zu_5104 246 = true := by decide +kernel
theorem zk_5104 : zu_5104.all (zck mi_P zc_5104.2.1 zw_5104 false [] [] (fun d y as t en => zcal zw_5104 d y as t en zs_5104) zc_5104.2.2.2.1.length zc_5104.2.2.2.1 zc_5104.2.2.2.2.2.1 zp_5104 zu_5104 246) = true := by decide +kernel
theorem zt_5104 {S : Nat × (Nat → Int32)} : zCtr mi_P S zTt zc_5104 := by
  have hc : ∀ c ∈ zs_5104, zCtr mi_P S zTt c := by
    intro c hc
    simp only [zs_5104, List.mem_cons, List.not_mem_nil, or_false] at hc
    rcases hc with rfl | rfl | rfl
    · exact zt_5099
    · exact zt_5103
    · exact zt_5093
  exact zCtr_of (Om := zTt) (ct := zc_5104) (ps := zp_5104) (fun _ _ _ _ => trivial) rfl hc za_5104 z0_5104 zk_5104
/-- L$Course.leaveLock(II)V -/
def zw_5105 : zW := .branch 405 (.branch 403 (.leaf (400, [3, 4, 5])) (.branch 404 (.leaf (404, [2, 6])) (.leaf (405, [0])))) (.branch 408 (.branch 406 (.leaf (406, [0])) (.leaf (407, [0]))) (.branch 409 (.leaf (409, [0])) (.leaf (410, [0]))))
def zp_5105 : List (zPo × List (Nat ⊕ (Nat × zL))) := [(([], [], [(399, [((3, []), zaI), ((4, []), zaI), ((5, []), zaI)]), (403, [((2, []), zaI), ((6, []), .inr (.inr (.inr (.inl (0, 20)))))]), (404, []), (405, []), (406, []), (408, []), (409, [])], none), [])]
def zc_5105 : zCt := (81, 2, [.inr (.inl 399), .inl (0, []), .inl (0, [])], [], [], .branch 403 (.branch 399 (.branch 378 (.leaf (367, 102, 11, .inr 3, [((10, []), .inr (.inl 378))])) (.leaf (379, 0, 12, .inl ((-2147483648), 2147483647), []))) (.branch 400 (.leaf (400, 109, 9, .inr 3, [((0, []), .inr (.inl 366)), ((1, []), .inr (.inl 400)), ((2, []), .inr (.inl 403)), ((3, []), zaI), ((4, []), zaI), ((5, []), zaI)])) (.branch 401 (.leaf (401, 103, 5, .inr 3, [((1, []), .inr (.inr (.inr (.inl (0, 1))))), ((2, []), zaI), ((3, []), .inr (.inl 401))])) (.leaf (402, 0, 2, .inl ((-2147483648), 2147483647), []))))) (.branch 406 (.branch 404 (.leaf (404, 107, 14, .inr 3, [((2, []), zaI), ((6, []), .inr (.inr (.inr (.inl (0, 20))))), ((7, []), .inr (.inl 404)), ((8, []), .inr (.inl 405)), ((9, []), .inr (.inl 406)), ((11, []), .inr (.inl 408)), ((12, []), .inr (.inl 409))])) (.branch 405 (.leaf (405, 0, 20, .inl ((-2147483648), 2147483647), [])) (.leaf (406, 0, 2, .inl ((-2147483648), 2147483647), [])))) (.branch 408 (.leaf (407, 0, 12, .inl ((-2147483648), 2147483647), [])) (.branch 409 (.leaf (409, 0, 3, .inl (0, 12), [])) (.leaf (410, 0, 36, .inl (0, 11), []))))), zw_5105, [], zp_5105.map (fun p => p.1))
def zu_5105 : List zCu := []
def zs_5105 : List zCt := [zc_5098, zc_5102, zc_5093]
theorem za_5105 : zwin zw_5105 zc_5105.2.2.2.2.2.1 = true := by decide +kernel
theorem z0_5105 : zst0 mi_P zw_5105 [] [] (fun d y as t en => zcal zw_5105 d y as t en zs_5105) zc_5105 zp_5105 zu_5105 246 = true := by decide +kernel
theorem zk_5105 : zu_5105.all (zck mi_P zc_5105.2.1 zw_5105 false [] [] (fun d y as t en => zcal zw_5105 d y as t en zs_5105) zc_5105.2.2.2.1.length zc_5105.2.2.2.1 zc_5105.2.2.2.2.2.1 zp_5105 zu_5105 246) = true := by decide +kernel
theorem zt_5105 {S : Nat × (Nat → Int32)} : zCtr mi_P S zTt zc_5105 := by
  have hc : ∀ c ∈ zs_5105, zCtr mi_P S zTt c := by
    intro c hc
    simp only [zs_5105, List.mem_cons, List.not_mem_nil, or_false] at hc
    rcases hc with rfl | rfl | rfl
    · exact zt_5098
    · exact zt_5102
    · exact zt_5093
  exact zCtr_of (Om := zTt) (ct := zc_5105) (ps := zp_5105) (fun _ _ _ _ => trivial) rfl hc za_5105 z0_5105 zk_5105
/-- L$Course.enterLock(II)V -/
def zw_5106 : zW := .branch 406 (.branch 404 (.branch 403 (.leaf (400, [3, 4, 5])) (.leaf (404, [2, 6]))) (.branch 405 (.leaf (405, [0])) (.leaf (406, [0])))) (.branch 408 (.branch 407 (.leaf (407, [0])) (.leaf (408, [0]))) (.branch 409 (.leaf (409, [0])) (.leaf (410, [0]))))
def zp_5106 : List (zPo × List (Nat ⊕ (Nat × zL))) := [(([], [], [(399, [((3, []), zaI), ((4, []), zaI), ((5, []), zaI)]), (403, [((2, []), zaI), ((6, []), .inr (.inr (.inr (.inl (0, 20)))))]), (404, []), (405, []), (406, []), (407, []), (408, []), (409, [])], none), [])]
def zc_5106 : zCt := (87, 2, [.inr (.inl 399), .inl (0, []), .inl (0, [])], [], [], .branch 403 (.branch 400 (.branch 377 (.leaf (367, 102, 11, .inr 3, [((9, []), .inr (.inl 377))])) (.branch 399 (.leaf (378, 0, 12, .inl ((-2147483648), 2147483647), [])) (.leaf (400, 109, 9, .inr 3, [((0, []), .inr (.inl 366)), ((1, []), .inr (.inl 400)), ((2, []), .inr (.inl 403)), ((3, []), zaI), ((4, []), zaI), ((5, []), zaI)])))) (.branch 401 (.leaf (401, 103, 5, .inr 3, [((0, []), zaI), ((1, []), .inr (.inr (.inr (.inl (0, 1))))), ((2, []), zaI), ((3, []), .inr (.inl 401)), ((4, []), .inr (.inl 402))])) (.branch 402 (.leaf (402, 0, 2, .inl ((-2147483648), 2147483647), [])) (.leaf (403, 0, 12, .inl ((-2147483648), 2147483647), []))))) (.branch 406 (.branch 404 (.leaf (404, 107, 14, .inr 3, [((0, []), zaI), ((2, []), zaI), ((6, []), .inr (.inr (.inr (.inl (0, 20))))), ((7, []), .inr (.inl 404)), ((8, []), .inr (.inl 405)), ((9, []), .inr (.inl 406)), ((10, []), .inr (.inl 407)), ((11, []), .inr (.inl 408)), ((12, []), .inr (.inl 409))])) (.branch 405 (.leaf (405, 0, 20, .inl ((-2147483648), 2147483647), [])) (.leaf (406, 0, 2, .inl ((-2147483648), 2147483647), [])))) (.branch 408 (.branch 407 (.leaf (407, 0, 12, .inl ((-2147483648), 2147483647), [])) (.leaf (408, 0, 12, .inl ((-2147483648), 2147483647), []))) (.branch 409 (.leaf (409, 0, 3, .inl (0, 12), [])) (.leaf (410, 0, 36, .inl (0, 11), []))))), zw_5106, [], zp_5106.map (fun p => p.1))
def zu_5106 : List zCu := []
def zs_5106 : List zCt := [zc_5100, zc_5102, zc_5094]
theorem za_5106 : zwin zw_5106 zc_5106.2.2.2.2.2.1 = true := by decide +kernel
theorem z0_5106 : zst0 mi_P zw_5106 [] [] (fun d y as t en => zcal zw_5106 d y as t en zs_5106) zc_5106 zp_5106 zu_5106 456 = true := by decide +kernel
theorem zk_5106 : zu_5106.all (zck mi_P zc_5106.2.1 zw_5106 false [] [] (fun d y as t en => zcal zw_5106 d y as t en zs_5106) zc_5106.2.2.2.1.length zc_5106.2.2.2.1 zc_5106.2.2.2.2.2.1 zp_5106 zu_5106 456) = true := by decide +kernel
theorem zt_5106 {S : Nat × (Nat → Int32)} : zCtr mi_P S zTt zc_5106 := by
  have hc : ∀ c ∈ zs_5106, zCtr mi_P S zTt c := by
    intro c hc
    simp only [zs_5106, List.mem_cons, List.not_mem_nil, or_false] at hc
    rcases hc with rfl | rfl | rfl
    · exact zt_5100
    · exact zt_5102
    · exact zt_5094
  exact zCtr_of (Om := zTt) (ct := zc_5106) (ps := zp_5106) (fun _ _ _ _ => trivial) rfl hc za_5106 z0_5106 zk_5106
/-- L$Course.enterLock(II)V -/
def zw_5107 : zW := .branch 406 (.branch 404 (.branch 403 (.leaf (400, [3, 4, 5])) (.leaf (404, [2, 6]))) (.branch 405 (.leaf (405, [0])) (.leaf (406, [0])))) (.branch 408 (.branch 407 (.leaf (407, [0])) (.leaf (408, [0]))) (.branch 409 (.leaf (409, [0])) (.leaf (410, [0]))))
def zp_5107 : List (zPo × List (Nat ⊕ (Nat × zL))) := [(([], [], [(399, [((3, []), zaI), ((4, []), zaI), ((5, []), zaI)]), (403, [((2, []), zaI), ((6, []), .inr (.inr (.inr (.inl (0, 20)))))]), (404, []), (405, []), (406, []), (407, []), (408, []), (409, [])], none), [])]
def zc_5107 : zCt := (87, 2, [.inr (.inl 399), .inl (1, []), .inl (1, [])], [], [], .branch 403 (.branch 400 (.branch 377 (.leaf (367, 102, 11, .inr 3, [((9, []), .inr (.inl 377))])) (.branch 399 (.leaf (378, 0, 12, .inl ((-2147483648), 2147483647), [])) (.leaf (400, 109, 9, .inr 3, [((0, []), .inr (.inl 366)), ((1, []), .inr (.inl 400)), ((2, []), .inr (.inl 403)), ((3, []), zaI), ((4, []), zaI), ((5, []), zaI)])))) (.branch 401 (.leaf (401, 103, 5, .inr 3, [((0, []), zaI), ((1, []), .inr (.inr (.inr (.inl (0, 1))))), ((2, []), zaI), ((3, []), .inr (.inl 401)), ((4, []), .inr (.inl 402))])) (.branch 402 (.leaf (402, 0, 2, .inl ((-2147483648), 2147483647), [])) (.leaf (403, 0, 12, .inl ((-2147483648), 2147483647), []))))) (.branch 406 (.branch 404 (.leaf (404, 107, 14, .inr 3, [((0, []), zaI), ((2, []), zaI), ((6, []), .inr (.inr (.inr (.inl (0, 20))))), ((7, []), .inr (.inl 404)), ((8, []), .inr (.inl 405)), ((9, []), .inr (.inl 406)), ((10, []), .inr (.inl 407)), ((11, []), .inr (.inl 408)), ((12, []), .inr (.inl 409))])) (.branch 405 (.leaf (405, 0, 20, .inl ((-2147483648), 2147483647), [])) (.leaf (406, 0, 2, .inl ((-2147483648), 2147483647), [])))) (.branch 408 (.branch 407 (.leaf (407, 0, 12, .inl ((-2147483648), 2147483647), [])) (.leaf (408, 0, 12, .inl ((-2147483648), 2147483647), []))) (.branch 409 (.leaf (409, 0, 3, .inl (0, 12), [])) (.leaf (410, 0, 36, .inl (0, 11), []))))), zw_5107, [], zp_5107.map (fun p => p.1))
def zu_5107 : List zCu := []
def zs_5107 : List zCt := [zc_5100, zc_5103, zc_5095]
theorem za_5107 : zwin zw_5107 zc_5107.2.2.2.2.2.1 = true := by decide +kernel
theorem z0_5107 : zst0 mi_P zw_5107 [] [] (fun d y as t en => zcal zw_5107 d y as t en zs_5107) zc_5107 zp_5107 zu_5107 456 = true := by decide +kernel
theorem zk_5107 : zu_5107.all (zck mi_P zc_5107.2.1 zw_5107 false [] [] (fun d y as t en => zcal zw_5107 d y as t en zs_5107) zc_5107.2.2.2.1.length zc_5107.2.2.2.1 zc_5107.2.2.2.2.2.1 zp_5107 zu_5107 456) = true := by decide +kernel
theorem zt_5107 {S : Nat × (Nat → Int32)} : zCtr mi_P S zTt zc_5107 := by
  have hc : ∀ c ∈ zs_5107, zCtr mi_P S zTt c := by
    intro c hc
    simp only [zs_5107, List.mem_cons, List.not_mem_nil, or_false] at hc
    rcases hc with rfl | rfl | rfl
    · exact zt_5100
    · exact zt_5103
    · exact zt_5095
  exact zCtr_of (Om := zTt) (ct := zc_5107) (ps := zp_5107) (fun _ _ _ _ => trivial) rfl hc za_5107 z0_5107 zk_5107
/-- L$Course.tally()V -/
def zw_5108 : zW := .branch 411 (.branch 403 (.leaf (400, [6])) (.leaf (404, [3]))) (.branch 412 (.leaf (412, [0])) (.leaf (413, [0])))
def zp_5108 : List (zPo × List (Nat ⊕ (Nat × zL))) := [(([], [], [(399, [((6, []), zaI)]), (403, [((3, []), zaI)]), (411, []), (412, [])], none), [])]
def zc_5108 : zCt := (89, 2, [.inr (.inl 399)], [], [], .branch 405 (.branch 378 (.branch 376 (.leaf (367, 102, 11, .inr 3, [((8, []), .inr (.inl 376)), ((10, []), .inr (.inl 378))])) (.leaf (377, 0, 12, .inl ((-2147483648), 2147483647), []))) (.branch 399 (.leaf (379, 0, 12, .inl ((-2147483648), 2147483647), [])) (.branch 403 (.leaf (400, 109, 9, .inr 3, [((0, []), .inr (.inl 366)), ((2, []), .inr (.inl 403)), ((6, []), zaI), ((7, []), .inr (.inl 411)), ((8, []), .inr (.inl 412))])) (.leaf (404, 107, 14, .inr 3, [((3, []), zaI), ((8, []), .inr (.inl 405)), ((11, []), .inr (.inl 408)), ((12, []), .inr (.inl 409))]))))) (.branch 409 (.branch 408 (.leaf (406, 0, 2, .inl ((-2147483648), 2147483647), [])) (.leaf (409, 0, 3, .inl (0, 12), []))) (.branch 411 (.leaf (410, 0, 36, .inl (0, 11), [])) (.branch 412 (.leaf (412, 0, 2, .inl ((-2147483648), 2147483647), [])) (.leaf (413, 0, 3, .inl ((-2147483648), 2147483647), []))))), zw_5108, [], zp_5108.map (fun p => p.1))
def zu_5108 : List zCu := []
def zs_5108 : List zCt := [zc_5101, zc_5099, zc_5098]
theorem za_5108 : zwin zw_5108 zc_5108.2.2.2.2.2.1 = true := by decide +kernel
theorem z0_5108 : zst0 mi_P zw_5108 [] [] (fun d y as t en => zcal zw_5108 d y as t en zs_5108) zc_5108 zp_5108 zu_5108 884 = true := by decide +kernel
theorem zk_5108 : zu_5108.all (zck mi_P zc_5108.2.1 zw_5108 false [] [] (fun d y as t en => zcal zw_5108 d y as t en zs_5108) zc_5108.2.2.2.1.length zc_5108.2.2.2.1 zc_5108.2.2.2.2.2.1 zp_5108 zu_5108 884) = true := by decide +kernel
theorem zt_5108 {S : Nat × (Nat → Int32)} : zCtr mi_P S zTt zc_5108 := by
  have hc : ∀ c ∈ zs_5108, zCtr mi_P S zTt c := by
    intro c hc
    simp only [zs_5108, List.mem_cons, List.not_mem_nil, or_false] at hc
    rcases hc with rfl | rfl | rfl
    · exact zt_5101
    · exact zt_5099
    · exact zt_5098
  exact zCtr_of (Om := zTt) (ct := zc_5108) (ps := zp_5108) (fun _ _ _ _ => trivial) rfl hc za_5108 z0_5108 zk_5108
/-- L$Course.slip()V -/
def zw_5109 : zW := .branch 403 (.branch 374 (.leaf (372, [0])) (.leaf (375, [0]))) (.branch 410 (.leaf (404, [2])) (.leaf (411, [0])))
def zp_5109 : List (zPo × List (Nat ⊕ (Nat × zL))) := [(([], [], [(371, []), (374, []), (403, [((2, []), zaI)]), (410, [])], none), [])]
def zc_5109 : zCt := (90, 3, [.inr (.inl 399)], [], [], .branch 376 (.branch 372 (.branch 370 (.leaf (367, 102, 11, .inr 3, [((1, []), .inr (.inl 370)), ((5, []), .inr (.inr (.inr (.inl (0, 4))))), ((8, []), .inr (.inl 376))])) (.branch 371 (.leaf (371, 104, 7, .inr 3, [((0, []), .inr (.inl 371)), ((4, []), .inr (.inl 372)), ((5, []), .inr (.inl 373)), ((6, []), .inr (.inl 374))])) (.leaf (372, 0, 6, .inl ((-2147483648), 2147483647), [])))) (.branch 373 (.leaf (373, 0, 5, .inl (0, 540), [])) (.branch 374 (.leaf (374, 0, 540, .inr 1, [])) (.leaf (375, 0, 30, .inl ((-2147483648), 2147483647), []))))) (.branch 405 (.branch 399 (.leaf (377, 0, 12, .inl ((-2147483648), 2147483647), [])) (.branch 403 (.leaf (400, 109, 9, .inr 3, [((0, []), .inr (.inl 366)), ((2, []), .inr (.inl 403))])) (.leaf (404, 107, 14, .inr 3, [((1, []), zaI), ((2, []), zaI), ((4, []), zaI), ((5, []), .inr (.inr (.inr (.inl (0, 1))))), ((8, []), .inr (.inl 405)), ((11, []), .inr (.inl 408)), ((12, []), .inr (.inl 409)), ((13, []), .inr (.inl 410))])))) (.branch 409 (.branch 408 (.leaf (406, 0, 2, .inl ((-2147483648), 2147483647), [])) (.leaf (409, 0, 3, .inl (0, 12), []))) (.branch 410 (.leaf (410, 0, 36, .inl (0, 11), [])) (.leaf (411, 0, 16, .inl ((-2147483648), 2147483647), []))))), zw_5109, [], zp_5109.map (fun p => p.1))
def zu_5109 : List zCu := [(([(90, 8, [(1, .inl (0, [(2, 1)])), (0, .inr (.inl 399))], [])], .branch 376 (.branch 372 (.branch 370 (.leaf (367, 102, 11, .inr 3, [((1, []), .inr (.inl 370)), ((5, []), .inr (.inr (.inr (.inl (0, 4))))), ((8, []), .inr (.inl 376))])) (.branch 371 (.leaf (371, 104, 7, .inr 3, [((0, []), .inr (.inl 371)), ((4, []), .inr (.inl 372)), ((5, []), .inr (.inl 373)), ((6, []), .inr (.inl 374))])) (.leaf (372, 0, 6, .inl ((-2147483648), 2147483647), [((3, []), .inl (0, [(0, 1)])), ((4, []), .inl (0, [(1, 1)]))])))) (.branch 373 (.leaf (373, 0, 5, .inl (0, 540), [])) (.branch 374 (.leaf (374, 0, 540, .inr 1, [])) (.leaf (375, 0, 30, .inl ((-2147483648), 2147483647), []))))) (.branch 405 (.branch 399 (.leaf (377, 0, 12, .inl ((-2147483648), 2147483647), [])) (.branch 403 (.leaf (400, 109, 9, .inr 3, [((0, []), .inr (.inl 366)), ((2, []), .inr (.inl 403))])) (.leaf (404, 107, 14, .inr 3, [((2, []), zaI), ((8, []), .inr (.inl 405)), ((11, []), .inr (.inl 408)), ((12, []), .inr (.inl 409)), ((13, []), .inr (.inl 410)), ((5, []), .inr (.inr (.inr (.inl (0, 1))))), ((4, []), .inl (0, [(0, 1)])), ((1, []), .inl (0, [(1, 1)]))])))) (.branch 409 (.branch 408 (.leaf (406, 0, 2, .inl ((-2147483648), 2147483647), [])) (.leaf (409, 0, 3, .inl (0, 12), []))) (.branch 410 (.leaf (410, 0, 36, .inl (0, 11), [])) (.leaf (411, 0, 16, .inl ((-2147483648), 2147483647), []))))), [((-2147483648), 2147483647), ((-2147483648), 2147483647), (0, 4)], [], []), [.inr (.inr (371, (3, []))), .inr (.inr (371, (4, []))), .inl (0, 1)], (4, [(2, (-1))]))]
def zs_5109 : List zCt := [zc_5101, zc_5071, zc_5092]
theorem za_5109 : zwin zw_5109 zc_5109.2.2.2.2.2.1 = true := by decide +kernel
theorem z0_5109 : zst0 mi_P zw_5109 [] [] (fun d y as t en => zcal zw_5109 d y as t en zs_5109) zc_5109 zp_5109 zu_5109 740 = true := by decide +kernel
theorem zk_5109 : zu_5109.all (zck mi_P zc_5109.2.1 zw_5109 false [] [] (fun d y as t en => zcal zw_5109 d y as t en zs_5109) zc_5109.2.2.2.1.length zc_5109.2.2.2.1 zc_5109.2.2.2.2.2.1 zp_5109 zu_5109 740) = true := by decide +kernel
theorem zt_5109 {S : Nat × (Nat → Int32)} : zCtr mi_P S zTt zc_5109 := by
  have hc : ∀ c ∈ zs_5109, zCtr mi_P S zTt c := by
    intro c hc
    simp only [zs_5109, List.mem_cons, List.not_mem_nil, or_false] at hc
    rcases hc with rfl | rfl | rfl
    · exact zt_5101
    · exact zt_5071
    · exact zt_5092
  exact zCtr_of (Om := zTt) (ct := zc_5109) (ps := zp_5109) (fun _ _ _ _ => trivial) rfl hc za_5109 z0_5109 zk_5109
/-- L$Course.passSecond()V -/
def zw_5110 : zW := .branch 406 (.branch 403 (.branch 374 (.leaf (372, [0])) (.branch 399 (.leaf (375, [0])) (.leaf (400, [3, 4, 5, 6])))) (.branch 404 (.leaf (404, [0, 2, 3, 6])) (.branch 405 (.leaf (405, [0])) (.leaf (406, [0]))))) (.branch 409 (.branch 407 (.leaf (407, [0])) (.branch 408 (.leaf (408, [0])) (.leaf (409, [0])))) (.branch 411 (.branch 410 (.leaf (410, [0])) (.leaf (411, [0]))) (.branch 412 (.leaf (412, [0])) (.leaf (413, [0])))))
def zp_5110 : List (zPo × List (Nat ⊕ (Nat × zL))) := [(([], [], [(371, []), (374, []), (399, [((3, []), zaI), ((4, []), zaI), ((5, []), zaI), ((6, []), zaI)]), (403, [((0, []), zaI), ((2, []), zaI), ((3, []), zaI), ((6, []), .inr (.inr (.inr (.inl (0, 20)))))]), (404, []), (405, []), (406, []), (407, []), (408, []), (409, []), (410, []), (411, []), (412, [])], none), [])]
def zc_5110 : zCt := (78, 4, [.inr (.inl 399)], [], [], .branch 401 (.branch 374 (.branch 371 (.branch 370 (.leaf (367, 102, 11, .inr 3, [((1, []), .inr (.inl 370)), ((5, []), .inr (.inr (.inr (.inl (0, 4))))), ((7, []), .inr (.inr (.inr (.inl (0, 12))))), ((8, []), .inr (.inl 376)), ((9, []), .inr (.inl 377)), ((10, []), .inr (.inl 378))])) (.leaf (371, 104, 7, .inr 3, [((0, []), .inr (.inl 371)), ((4, []), .inr (.inl 372)), ((5, []), .inr (.inl 373)), ((6, []), .inr (.inl 374))]))) (.branch 372 (.leaf (372, 0, 6, .inl ((-2147483648), 2147483647), [])) (.branch 373 (.leaf (373, 0, 5, .inl (0, 540), [])) (.leaf (374, 0, 540, .inr 1, []))))) (.branch 378 (.branch 376 (.leaf (375, 0, 30, .inl ((-2147483648), 2147483647), [])) (.branch 377 (.leaf (377, 0, 12, .inl ((-2147483648), 2147483647), [])) (.leaf (378, 0, 12, .inl ((-2147483648), 2147483647), [])))) (.branch 399 (.leaf (379, 0, 12, .inl ((-2147483648), 2147483647), [])) (.branch 400 (.leaf (400, 109, 9, .inr 3, [((0, []), .inr (.inl 366)), ((1, []), .inr (.inl 400)), ((2, []), .inr (.inl 403)), ((3, []), zaI), ((4, []), zaI), ((5, []), zaI), ((6, []), zaI), ((7, []), .inr (.inl 411)), ((8, []), .inr (.inl 412))])) (.leaf (401, 103, 5, .inr 3, [((0, []), zaI), ((1, []), .inr (.inr (.inr (.inl (0, 1))))), ((2, []), zaI), ((3, []), .inr (.inl 401)), ((4, []), .inr (.inl 402))])))))) (.branch 407 (.branch 404 (.branch 402 (.leaf (402, 0, 2, .inl ((-2147483648), 2147483647), [])) (.branch 403 (.leaf (403, 0, 12, .inl ((-2147483648), 2147483647), [])) (.leaf (404, 107, 14, .inr 3, [((0, []), zaI), ((1, []), zaI), ((2, []), zaI), ((3, []), zaI), ((4, []), zaI), ((5, []), .inr (.inr (.inr (.inl (0, 1))))), ((6, []), .inr (.inr (.inr (.inl (0, 20))))), ((7, []), .inr (.inl 404)), ((8, []), .inr (.inl 405)), ((9, []), .inr (.inl 406)), ((10, []), .inr (.inl 407)), ((11, []), .inr (.inl 408)), ((12, []), .inr (.inl 409)), ((13, []), .inr (.inl 410))])))) (.branch 405 (.leaf (405, 0, 20, .inl ((-2147483648), 2147483647), [])) (.branch 406 (.leaf (406, 0, 2, .inl ((-2147483648), 2147483647), [])) (.leaf (407, 0, 12, .inl ((-2147483648), 2147483647), []))))) (.branch 410 (.branch 408 (.leaf (408, 0, 12, .inl ((-2147483648), 2147483647), [])) (.branch 409 (.leaf (409, 0, 3, .inl (0, 12), [])) (.leaf (410, 0, 36, .inl (0, 11), [])))) (.branch 411 (.leaf (411, 0, 16, .inl ((-2147483648), 2147483647), [])) (.branch 412 (.leaf (412, 0, 2, .inl ((-2147483648), 2147483647), [])) (.leaf (413, 0, 3, .inl ((-2147483648), 2147483647), [])))))), zw_5110, [], zp_5110.map (fun p => p.1))
def zu_5110 : List zCu := []
def zs_5110 : List zCt := [zc_5097, zc_5104, zc_5105, zc_5106, zc_5107, zc_5108, zc_5109]
theorem za_5110 : zwin zw_5110 zc_5110.2.2.2.2.2.1 = true := by decide +kernel
theorem z0_5110 : zst0 mi_P zw_5110 [] [] (fun d y as t en => zcal zw_5110 d y as t en zs_5110) zc_5110 zp_5110 zu_5110 314 = true := by decide +kernel
theorem zk_5110 : zu_5110.all (zck mi_P zc_5110.2.1 zw_5110 false [] [] (fun d y as t en => zcal zw_5110 d y as t en zs_5110) zc_5110.2.2.2.1.length zc_5110.2.2.2.1 zc_5110.2.2.2.2.2.1 zp_5110 zu_5110 314) = true := by decide +kernel
theorem zt_5110 {S : Nat × (Nat → Int32)} : zCtr mi_P S zTt zc_5110 := by
  have hc : ∀ c ∈ zs_5110, zCtr mi_P S zTt c := by
    intro c hc
    simp only [zs_5110, List.mem_cons, List.not_mem_nil, or_false] at hc
    rcases hc with rfl | rfl | rfl | rfl | rfl | rfl | rfl
    · exact zt_5097
    · exact zt_5104
    · exact zt_5105
    · exact zt_5106
    · exact zt_5107
    · exact zt_5108
    · exact zt_5109
  exact zCtr_of (Om := zTt) (ct := zc_5110) (ps := zp_5110) (fun _ _ _ _ => trivial) rfl hc za_5110 z0_5110 zk_5110
/-- L$Course.oddsOf(I)I -/
def zw_5111 : zW := .branch 374 (.leaf (372, [0])) (.leaf (375, [0]))
def zp_5111 : List (zPo × List (Nat ⊕ (Nat × zL))) := [(([], [], [(371, []), (374, [])], some (.inr (.inr (.inr (.inl (0, 100)))))), [])]
def zc_5111 : zCt := (61, 3, [.inr (.inl 399), .inr (.inr (.inr (.inl (0, 3))))], [], [], .branch 376 (.branch 372 (.branch 370 (.leaf (367, 102, 11, .inr 3, [((1, []), .inr (.inl 370)), ((8, []), .inr (.inl 376))])) (.branch 371 (.leaf (371, 104, 7, .inr 3, [((0, []), .inr (.inl 371)), ((4, []), .inr (.inl 372)), ((5, []), .inr (.inl 373)), ((6, []), .inr (.inl 374))])) (.leaf (372, 0, 6, .inl ((-2147483648), 2147483647), [])))) (.branch 373 (.leaf (373, 0, 5, .inl (0, 540), [])) (.branch 374 (.leaf (374, 0, 540, .inr 1, [])) (.leaf (375, 0, 30, .inl ((-2147483648), 2147483647), []))))) (.branch 405 (.branch 399 (.leaf (377, 0, 12, .inl ((-2147483648), 2147483647), [])) (.branch 403 (.leaf (400, 109, 9, .inr 3, [((0, []), .inr (.inl 366)), ((2, []), .inr (.inl 403))])) (.leaf (404, 107, 14, .inr 3, [((1, []), zaI), ((4, []), zaI), ((5, []), .inr (.inr (.inr (.inl (0, 1))))), ((8, []), .inr (.inl 405)), ((11, []), .inr (.inl 408)), ((12, []), .inr (.inl 409)), ((13, []), .inr (.inl 410))])))) (.branch 409 (.branch 408 (.leaf (406, 0, 2, .inl ((-2147483648), 2147483647), [])) (.leaf (409, 0, 3, .inl (0, 12), []))) (.branch 410 (.leaf (410, 0, 36, .inl (0, 11), [])) (.leaf (411, 0, 16, .inl ((-2147483648), 2147483647), []))))), zw_5111, [], zp_5111.map (fun p => p.1))
def zu_5111 : List zCu := []
def zs_5111 : List zCt := [zc_5101, zc_5071]
theorem za_5111 : zwin zw_5111 zc_5111.2.2.2.2.2.1 = true := by decide +kernel
theorem z0_5111 : zst0 mi_P zw_5111 [] [] (fun d y as t en => zcal zw_5111 d y as t en zs_5111) zc_5111 zp_5111 zu_5111 832 = true := by decide +kernel
theorem zk_5111 : zu_5111.all (zck mi_P zc_5111.2.1 zw_5111 false [] [] (fun d y as t en => zcal zw_5111 d y as t en zs_5111) zc_5111.2.2.2.1.length zc_5111.2.2.2.1 zc_5111.2.2.2.2.2.1 zp_5111 zu_5111 832) = true := by decide +kernel
theorem zt_5111 {S : Nat × (Nat → Int32)} : zCtr mi_P S zTt zc_5111 := by
  have hc : ∀ c ∈ zs_5111, zCtr mi_P S zTt c := by
    intro c hc
    simp only [zs_5111, List.mem_cons, List.not_mem_nil, or_false] at hc
    rcases hc with rfl | rfl
    · exact zt_5101
    · exact zt_5071
  exact zCtr_of (Om := zTt) (ct := zc_5111) (ps := zp_5111) (fun _ _ _ _ => trivial) rfl hc za_5111 z0_5111 zk_5111
/-- L$Day.skipQuiet(I)I -/
def zw_5112 : zW := .leaf (404, [0])
def zp_5112 : List (zPo × List (Nat ⊕ (Nat × zL))) := [(([], [], [(403, [((0, []), zaI)])], some (.inr (.inr (.inr (.inl (0, 900)))))), [])]
def zc_5112 : zCt := (111, 0, [.inr (.inl 398), .inr (.inr (.inr (.inl (0, 900))))], [], [], .branch 400 (.branch 398 (.leaf (367, 102, 11, .inr 3, [((7, []), .inr (.inr (.inr (.inl (0, 12)))))])) (.branch 399 (.leaf (399, 111, 2, .inr 3, [((0, []), .inr (.inl 399))])) (.leaf (400, 109, 9, .inr 3, [((0, []), .inr (.inl 366)), ((1, []), .inr (.inl 400)), ((2, []), .inr (.inl 403))])))) (.branch 403 (.branch 402 (.leaf (401, 103, 5, .inr 3, [((4, []), .inr (.inl 402))])) (.leaf (403, 0, 12, .inl ((-2147483648), 2147483647), []))) (.branch 406 (.leaf (404, 107, 14, .inr 3, [((0, []), zaI), ((9, []), .inr (.inl 406))])) (.leaf (407, 0, 12, .inl ((-2147483648), 2147483647), [])))), zw_5112, [], zp_5112.map (fun p => p.1))
def zu_5112 : List zCu := [(([(111, 4, [(3, .inl (0, [(1, 1)])), (2, .inl (0, [(2, 1)])), (0, .inr (.inl 398)), (1, .inl (0, [(0, 1)]))], [])], .branch 400 (.branch 398 (.leaf (367, 102, 11, .inr 3, [((7, []), .inr (.inr (.inr (.inl (0, 12)))))])) (.branch 399 (.leaf (399, 111, 2, .inr 3, [((0, []), .inr (.inl 399))])) (.leaf (400, 109, 9, .inr 3, [((0, []), .inr (.inl 366)), ((1, []), .inr (.inl 400)), ((2, []), .inr (.inl 403))])))) (.branch 403 (.branch 402 (.leaf (401, 103, 5, .inr 3, [((4, []), .inr (.inl 402))])) (.leaf (403, 0, 12, .inl ((-2147483648), 2147483647), []))) (.branch 406 (.leaf (404, 107, 14, .inr 3, [((0, []), zaI), ((9, []), .inr (.inl 406))])) (.leaf (407, 0, 12, .inl ((-2147483648), 2147483647), [])))), [(0, 900), (0, 12), ((-2147483648), 900)], [], []), [.inl (0, 1), .inl (0, 3), .inl (0, 2)], (12, [(1, (-1))]))]
def zs_5112 : List zCt := []
theorem za_5112 : zwin zw_5112 zc_5112.2.2.2.2.2.1 = true := by decide +kernel
theorem z0_5112 : zst0 mi_P zw_5112 [] [] (fun d y as t en => zcal zw_5112 d y as t en zs_5112) zc_5112 zp_5112 zu_5112 288 = true := by decide +kernel
theorem zk_5112 : zu_5112.all (zck mi_P zc_5112.2.1 zw_5112 false [] [] (fun d y as t en => zcal zw_5112 d y as t en zs_5112) zc_5112.2.2.2.1.length zc_5112.2.2.2.1 zc_5112.2.2.2.2.2.1 zp_5112 zu_5112 288) = true := by decide +kernel
theorem zt_5112 {S : Nat × (Nat → Int32)} : zCtr mi_P S zTt zc_5112 := by
  have hc : ∀ c ∈ zs_5112, zCtr mi_P S zTt c := fun c hc => by cases hc
  exact zCtr_of (Om := zTt) (ct := zc_5112) (ps := zp_5112) (fun _ _ _ _ => trivial) rfl hc za_5112 z0_5112 zk_5112
/-- L$Day.notThrough()I -/
def zw_5113 : zW := .leaf (0, [])
def zp_5113 : List (zPo × List (Nat ⊕ (Nat × zL))) := [(([], [], [], some (zaI)), [])]
def zc_5113 : zCt := (110, 0, [.inr (.inl 398)], [], [], .branch 399 (.branch 398 (.leaf (367, 102, 11, .inr 3, [((7, []), .inr (.inr (.inr (.inl (0, 12)))))])) (.leaf (399, 111, 2, .inr 3, [((0, []), .inr (.inl 399))]))) (.branch 403 (.leaf (400, 109, 9, .inr 3, [((0, []), .inr (.inl 366)), ((2, []), .inr (.inl 403))])) (.branch 406 (.leaf (404, 107, 14, .inr 3, [((9, []), .inr (.inl 406))])) (.leaf (407, 0, 12, .inl ((-2147483648), 2147483647), [])))), zw_5113, [], zp_5113.map (fun p => p.1))
def zu_5113 : List zCu := [(([(110, 4, [(2, .inl (0, [(0, 1)])), (1, .inl (0, [(1, 1)])), (0, .inr (.inl 398))], [])], .branch 399 (.branch 398 (.leaf (367, 102, 11, .inr 3, [((7, []), .inr (.inr (.inr (.inl (0, 12)))))])) (.leaf (399, 111, 2, .inr 3, [((0, []), .inr (.inl 399))]))) (.branch 403 (.leaf (400, 109, 9, .inr 3, [((0, []), .inr (.inl 366)), ((2, []), .inr (.inl 403))])) (.branch 406 (.leaf (404, 107, 14, .inr 3, [((9, []), .inr (.inl 406))])) (.leaf (407, 0, 12, .inl ((-2147483648), 2147483647), [])))), [(0, 12), ((-2147483648), 2147483647)], [], []), [.inl (0, 2), .inl (0, 1)], (12, [(0, (-1))]))]
def zs_5113 : List zCt := []
theorem za_5113 : zwin zw_5113 zc_5113.2.2.2.2.2.1 = true := by decide +kernel
theorem z0_5113 : zst0 mi_P zw_5113 [] [] (fun d y as t en => zcal zw_5113 d y as t en zs_5113) zc_5113 zp_5113 zu_5113 258 = true := by decide +kernel
theorem zk_5113 : zu_5113.all (zck mi_P zc_5113.2.1 zw_5113 false [] [] (fun d y as t en => zcal zw_5113 d y as t en zs_5113) zc_5113.2.2.2.1.length zc_5113.2.2.2.1 zc_5113.2.2.2.2.2.1 zp_5113 zu_5113 258) = true := by decide +kernel
theorem zt_5113 {S : Nat × (Nat → Int32)} : zCtr mi_P S zTt zc_5113 := by
  have hc : ∀ c ∈ zs_5113, zCtr mi_P S zTt c := fun c hc => by cases hc
  exact zCtr_of (Om := zTt) (ct := zc_5113) (ps := zp_5113) (fun _ _ _ _ => trivial) rfl hc za_5113 z0_5113 zk_5113
/-- L$Day.longestWait()I -/
def zw_5114 : zW := .leaf (0, [])
def zp_5114 : List (zPo × List (Nat ⊕ (Nat × zL))) := [(([], [], [], some (.inr (.inr (.inr (.inl (0, 2147483647)))))), [])]
def zc_5114 : zCt := (112, 0, [.inr (.inl 398)], [], [], .branch 399 (.branch 398 (.leaf (367, 102, 11, .inr 3, [((7, []), .inr (.inr (.inr (.inl (0, 12)))))])) (.leaf (399, 111, 2, .inr 3, [((0, []), .inr (.inl 399))]))) (.branch 403 (.leaf (400, 109, 9, .inr 3, [((0, []), .inr (.inl 366)), ((2, []), .inr (.inl 403))])) (.branch 407 (.leaf (404, 107, 14, .inr 3, [((10, []), .inr (.inl 407))])) (.leaf (408, 0, 12, .inl ((-2147483648), 2147483647), [])))), zw_5114, [], zp_5114.map (fun p => p.1))
def zu_5114 : List zCu := [(([(112, 4, [(2, .inl (0, [(0, 1)])), (1, .inl (0, [(1, 1)])), (0, .inr (.inl 398))], [])], .branch 399 (.branch 398 (.leaf (367, 102, 11, .inr 3, [((7, []), .inr (.inr (.inr (.inl (0, 12)))))])) (.leaf (399, 111, 2, .inr 3, [((0, []), .inr (.inl 399))]))) (.branch 403 (.leaf (400, 109, 9, .inr 3, [((0, []), .inr (.inl 366)), ((2, []), .inr (.inl 403))])) (.branch 407 (.leaf (404, 107, 14, .inr 3, [((10, []), .inr (.inl 407))])) (.leaf (408, 0, 12, .inl ((-2147483648), 2147483647), [])))), [(0, 12), (0, 2147483647)], [], []), [.inl (0, 2), .inl (0, 1)], (12, [(0, (-1))]))]
def zs_5114 : List zCt := []
theorem za_5114 : zwin zw_5114 zc_5114.2.2.2.2.2.1 = true := by decide +kernel
theorem z0_5114 : zst0 mi_P zw_5114 [] [] (fun d y as t en => zcal zw_5114 d y as t en zs_5114) zc_5114 zp_5114 zu_5114 236 = true := by decide +kernel
theorem zk_5114 : zu_5114.all (zck mi_P zc_5114.2.1 zw_5114 false [] [] (fun d y as t en => zcal zw_5114 d y as t en zs_5114) zc_5114.2.2.2.1.length zc_5114.2.2.2.1 zc_5114.2.2.2.2.2.1 zp_5114 zu_5114 236) = true := by decide +kernel
theorem zt_5114 {S : Nat × (Nat → Int32)} : zCtr mi_P S zTt zc_5114 := by
  have hc : ∀ c ∈ zs_5114, zCtr mi_P S zTt c := fun c hc => by cases hc
  exact zCtr_of (Om := zTt) (ct := zc_5114) (ps := zp_5114) (fun _ _ _ _ => trivial) rfl hc za_5114 z0_5114 zk_5114
/-- L$Day.waitsTogether()I -/
def zw_5115 : zW := .leaf (0, [])
def zp_5115 : List (zPo × List (Nat ⊕ (Nat × zL))) := [(([], [], [], some (zaI)), [])]
def zc_5115 : zCt := (113, 0, [.inr (.inl 398)], [], [], .branch 399 (.branch 398 (.leaf (367, 102, 11, .inr 3, [((7, []), .inr (.inr (.inr (.inl (0, 12)))))])) (.leaf (399, 111, 2, .inr 3, [((0, []), .inr (.inl 399))]))) (.branch 403 (.leaf (400, 109, 9, .inr 3, [((0, []), .inr (.inl 366)), ((2, []), .inr (.inl 403))])) (.branch 407 (.leaf (404, 107, 14, .inr 3, [((10, []), .inr (.inl 407))])) (.leaf (408, 0, 12, .inl ((-2147483648), 2147483647), [])))), zw_5115, [], zp_5115.map (fun p => p.1))
def zu_5115 : List zCu := [(([(113, 4, [(2, .inl (0, [(0, 1)])), (1, .inl (0, [(1, 1)])), (0, .inr (.inl 398))], [])], .branch 399 (.branch 398 (.leaf (367, 102, 11, .inr 3, [((7, []), .inr (.inr (.inr (.inl (0, 12)))))])) (.leaf (399, 111, 2, .inr 3, [((0, []), .inr (.inl 399))]))) (.branch 403 (.leaf (400, 109, 9, .inr 3, [((0, []), .inr (.inl 366)), ((2, []), .inr (.inl 403))])) (.branch 407 (.leaf (404, 107, 14, .inr 3, [((10, []), .inr (.inl 407))])) (.leaf (408, 0, 12, .inl ((-2147483648), 2147483647), [])))), [(0, 12), ((-2147483648), 2147483647)], [], []), [.inl (0, 2), .inl (0, 1)], (12, [(0, (-1))]))]
def zs_5115 : List zCt := []
theorem za_5115 : zwin zw_5115 zc_5115.2.2.2.2.2.1 = true := by decide +kernel
theorem z0_5115 : zst0 mi_P zw_5115 [] [] (fun d y as t en => zcal zw_5115 d y as t en zs_5115) zc_5115 zp_5115 zu_5115 240 = true := by decide +kernel
theorem zk_5115 : zu_5115.all (zck mi_P zc_5115.2.1 zw_5115 false [] [] (fun d y as t en => zcal zw_5115 d y as t en zs_5115) zc_5115.2.2.2.1.length zc_5115.2.2.2.1 zc_5115.2.2.2.2.2.1 zp_5115 zu_5115 240) = true := by decide +kernel
theorem zt_5115 {S : Nat × (Nat → Int32)} : zCtr mi_P S zTt zc_5115 := by
  have hc : ∀ c ∈ zs_5115, zCtr mi_P S zTt c := fun c hc => by cases hc
  exact zCtr_of (Om := zTt) (ct := zc_5115) (ps := zp_5115) (fun _ _ _ _ => trivial) rfl hc za_5115 z0_5115 zk_5115
/-- L$Day.headsThrough()I -/
def zw_5116 : zW := .leaf (0, [])
def zp_5116 : List (zPo × List (Nat ⊕ (Nat × zL))) := [(([], [], [], some (zaI)), [])]
def zc_5116 : zCt := (115, 0, [.inr (.inl 398)], [], [], .branch 399 (.branch 376 (.leaf (367, 102, 11, .inr 3, [((7, []), .inr (.inr (.inr (.inl (0, 12))))), ((8, []), .inr (.inl 376))])) (.branch 398 (.leaf (377, 0, 12, .inl ((-2147483648), 2147483647), [])) (.leaf (399, 111, 2, .inr 3, [((0, []), .inr (.inl 399))])))) (.branch 403 (.leaf (400, 109, 9, .inr 3, [((0, []), .inr (.inl 366)), ((2, []), .inr (.inl 403))])) (.branch 406 (.leaf (404, 107, 14, .inr 3, [((9, []), .inr (.inl 406))])) (.leaf (407, 0, 12, .inl ((-2147483648), 2147483647), [])))), zw_5116, [], zp_5116.map (fun p => p.1))
def zu_5116 : List zCu := [(([(115, 4, [(2, .inl (0, [(0, 1)])), (1, .inl (0, [(1, 1)])), (0, .inr (.inl 398))], [])], .branch 399 (.branch 376 (.leaf (367, 102, 11, .inr 3, [((7, []), .inr (.inr (.inr (.inl (0, 12))))), ((8, []), .inr (.inl 376))])) (.branch 398 (.leaf (377, 0, 12, .inl ((-2147483648), 2147483647), [])) (.leaf (399, 111, 2, .inr 3, [((0, []), .inr (.inl 399))])))) (.branch 403 (.leaf (400, 109, 9, .inr 3, [((0, []), .inr (.inl 366)), ((2, []), .inr (.inl 403))])) (.branch 406 (.leaf (404, 107, 14, .inr 3, [((9, []), .inr (.inl 406))])) (.leaf (407, 0, 12, .inl ((-2147483648), 2147483647), [])))), [(0, 12), ((-2147483648), 2147483647)], [], []), [.inl (0, 2), .inl (0, 1)], (12, [(0, (-1))]))]
def zs_5116 : List zCt := []
theorem za_5116 : zwin zw_5116 zc_5116.2.2.2.2.2.1 = true := by decide +kernel
theorem z0_5116 : zst0 mi_P zw_5116 [] [] (fun d y as t en => zcal zw_5116 d y as t en zs_5116) zc_5116 zp_5116 zu_5116 264 = true := by decide +kernel
theorem zk_5116 : zu_5116.all (zck mi_P zc_5116.2.1 zw_5116 false [] [] (fun d y as t en => zcal zw_5116 d y as t en zs_5116) zc_5116.2.2.2.1.length zc_5116.2.2.2.1 zc_5116.2.2.2.2.2.1 zp_5116 zu_5116 264) = true := by decide +kernel
theorem zt_5116 {S : Nat × (Nat → Int32)} : zCtr mi_P S zTt zc_5116 := by
  have hc : ∀ c ∈ zs_5116, zCtr mi_P S zTt c := fun c hc => by cases hc
  exact zCtr_of (Om := zTt) (ct := zc_5116) (ps := zp_5116) (fun _ _ _ _ => trivial) rfl hc za_5116 z0_5116 zk_5116
/-- L$Now.allOutside()I -/
def zw_5117 : zW := .leaf (0, [])
def zp_5117 : List (zPo × List (Nat ⊕ (Nat × zL))) := [(([], [], [], some (zaI)), [])]
def zc_5117 : zCt := (114, 1, [.inr (.inl 403)], [], [], .branch 410 (.leaf (404, 107, 14, .inr 3, [((13, []), .inr (.inl 410))])) (.leaf (411, 0, 16, .inl ((-2147483648), 2147483647), [])), zw_5117, [], zp_5117.map (fun p => p.1))
def zu_5117 : List zCu := [(([(114, 4, [(2, .inl (0, [(0, 1)])), (1, .inl (0, [(1, 1)])), (0, .inr (.inl 403))], [])], .branch 410 (.leaf (404, 107, 14, .inr 3, [((13, []), .inr (.inl 410))])) (.leaf (411, 0, 16, .inl ((-2147483648), 2147483647), [])), [(0, 4), ((-2147483648), 2147483647)], [], []), [.inl (0, 2), .inl (0, 1)], (4, [(0, (-1))]))]
def zs_5117 : List zCt := []
theorem za_5117 : zwin zw_5117 zc_5117.2.2.2.2.2.1 = true := by decide +kernel
theorem z0_5117 : zst0 mi_P zw_5117 [] [] (fun d y as t en => zcal zw_5117 d y as t en zs_5117) zc_5117 zp_5117 zu_5117 244 = true := by decide +kernel
theorem zk_5117 : zu_5117.all (zck mi_P zc_5117.2.1 zw_5117 false [] [] (fun d y as t en => zcal zw_5117 d y as t en zs_5117) zc_5117.2.2.2.1.length zc_5117.2.2.2.1 zc_5117.2.2.2.2.2.1 zp_5117 zu_5117 244) = true := by decide +kernel
theorem zt_5117 {S : Nat × (Nat → Int32)} : zCtr mi_P S zTt zc_5117 := by
  have hc : ∀ c ∈ zs_5117, zCtr mi_P S zTt c := fun c hc => by cases hc
  exact zCtr_of (Om := zTt) (ct := zc_5117) (ps := zp_5117) (fun _ _ _ _ => trivial) rfl hc za_5117 z0_5117 zk_5117
/-- L$Day.run()V -/
def zw_5118 : zW := .branch 406 (.branch 399 (.branch 374 (.leaf (372, [0])) (.branch 398 (.leaf (375, [0])) (.leaf (399, [1])))) (.branch 404 (.branch 403 (.leaf (400, [3, 4, 5, 6])) (.leaf (404, [0, 2, 3, 6]))) (.branch 405 (.leaf (405, [0])) (.leaf (406, [0]))))) (.branch 409 (.branch 407 (.leaf (407, [0])) (.branch 408 (.leaf (408, [0])) (.leaf (409, [0])))) (.branch 411 (.branch 410 (.leaf (410, [0])) (.leaf (411, [0]))) (.branch 412 (.leaf (412, [0])) (.leaf (413, [0])))))
def zp_5118 : List (zPo × List (Nat ⊕ (Nat × zL))) := [(([], [], [(371, []), (374, []), (398, [((1, []), zaI)]), (399, [((3, []), zaI), ((4, []), zaI), ((5, []), zaI), ((6, []), zaI)]), (403, [((0, []), zaI), ((2, []), zaI), ((3, []), zaI), ((6, []), .inr (.inr (.inr (.inl (0, 20)))))]), (404, []), (405, []), (406, []), (407, []), (408, []), (409, []), (410, []), (411, []), (412, [])], none), [])]
def zc_5118 : zCt := (107, 5, [.inr (.inl 398)], [], [], .branch 401 (.branch 376 (.branch 372 (.branch 370 (.leaf (367, 102, 11, .inr 3, [((1, []), .inr (.inl 370)), ((5, []), .inr (.inr (.inr (.inl (0, 4))))), ((7, []), .inr (.inr (.inr (.inl (0, 12))))), ((8, []), .inr (.inl 376)), ((9, []), .inr (.inl 377)), ((10, []), .inr (.inl 378))])) (.branch 371 (.leaf (371, 104, 7, .inr 3, [((0, []), .inr (.inl 371)), ((4, []), .inr (.inl 372)), ((5, []), .inr (.inl 373)), ((6, []), .inr (.inl 374))])) (.leaf (372, 0, 6, .inl ((-2147483648), 2147483647), [])))) (.branch 373 (.leaf (373, 0, 5, .inl (0, 540), [])) (.branch 374 (.leaf (374, 0, 540, .inr 1, [])) (.leaf (375, 0, 30, .inl ((-2147483648), 2147483647), []))))) (.branch 398 (.branch 377 (.leaf (377, 0, 12, .inl ((-2147483648), 2147483647), [])) (.branch 378 (.leaf (378, 0, 12, .inl ((-2147483648), 2147483647), [])) (.leaf (379, 0, 12, .inl ((-2147483648), 2147483647), [])))) (.branch 399 (.leaf (399, 111, 2, .inr 3, [((0, []), .inr (.inl 399)), ((1, []), zaI)])) (.branch 400 (.leaf (400, 109, 9, .inr 3, [((0, []), .inr (.inl 366)), ((1, []), .inr (.inl 400)), ((2, []), .inr (.inl 403)), ((3, []), zaI), ((4, []), zaI), ((5, []), zaI), ((6, []), zaI), ((7, []), .inr (.inl 411)), ((8, []), .inr (.inl 412))])) (.leaf (401, 103, 5, .inr 3, [((0, []), zaI), ((1, []), .inr (.inr (.inr (.inl (0, 1))))), ((2, []), zaI), ((3, []), .inr (.inl 401)), ((4, []), .inr (.inl 402))])))))) (.branch 407 (.branch 404 (.branch 402 (.leaf (402, 0, 2, .inl ((-2147483648), 2147483647), [])) (.branch 403 (.leaf (403, 0, 12, .inl ((-2147483648), 2147483647), [])) (.leaf (404, 107, 14, .inr 3, [((0, []), zaI), ((1, []), zaI), ((2, []), zaI), ((3, []), zaI), ((4, []), zaI), ((5, []), .inr (.inr (.inr (.inl (0, 1))))), ((6, []), .inr (.inr (.inr (.inl (0, 20))))), ((7, []), .inr (.inl 404)), ((8, []), .inr (.inl 405)), ((9, []), .inr (.inl 406)), ((10, []), .inr (.inl 407)), ((11, []), .inr (.inl 408)), ((12, []), .inr (.inl 409)), ((13, []), .inr (.inl 410))])))) (.branch 405 (.leaf (405, 0, 20, .inl ((-2147483648), 2147483647), [])) (.branch 406 (.leaf (406, 0, 2, .inl ((-2147483648), 2147483647), [])) (.leaf (407, 0, 12, .inl ((-2147483648), 2147483647), []))))) (.branch 410 (.branch 408 (.leaf (408, 0, 12, .inl ((-2147483648), 2147483647), [])) (.branch 409 (.leaf (409, 0, 3, .inl (0, 12), [])) (.leaf (410, 0, 36, .inl (0, 11), [])))) (.branch 411 (.leaf (411, 0, 16, .inl ((-2147483648), 2147483647), [])) (.branch 412 (.leaf (412, 0, 2, .inl ((-2147483648), 2147483647), [])) (.leaf (413, 0, 3, .inl ((-2147483648), 2147483647), [])))))), zw_5118, [], zp_5118.map (fun p => p.1))
def zu_5118 : List zCu := [(([(107, 6, [(0, .inr (.inl 398))], [])], .branch 401 (.branch 376 (.branch 372 (.branch 370 (.leaf (367, 102, 11, .inr 3, [((1, []), .inr (.inl 370)), ((5, []), .inr (.inr (.inr (.inl (0, 4))))), ((7, []), .inr (.inr (.inr (.inl (0, 12))))), ((8, []), .inr (.inl 376)), ((9, []), .inr (.inl 377)), ((10, []), .inr (.inl 378))])) (.branch 371 (.leaf (371, 104, 7, .inr 3, [((0, []), .inr (.inl 371)), ((4, []), .inr (.inl 372)), ((5, []), .inr (.inl 373)), ((6, []), .inr (.inl 374))])) (.leaf (372, 0, 6, .inl ((-2147483648), 2147483647), [])))) (.branch 373 (.leaf (373, 0, 5, .inl (0, 540), [])) (.branch 374 (.leaf (374, 0, 540, .inr 1, [])) (.leaf (375, 0, 30, .inl ((-2147483648), 2147483647), []))))) (.branch 398 (.branch 377 (.leaf (377, 0, 12, .inl ((-2147483648), 2147483647), [])) (.branch 378 (.leaf (378, 0, 12, .inl ((-2147483648), 2147483647), [])) (.leaf (379, 0, 12, .inl ((-2147483648), 2147483647), [])))) (.branch 399 (.leaf (399, 111, 2, .inr 3, [((0, []), .inr (.inl 399)), ((1, []), .inl (0, [(0, 1)]))])) (.branch 400 (.leaf (400, 109, 9, .inr 3, [((0, []), .inr (.inl 366)), ((1, []), .inr (.inl 400)), ((2, []), .inr (.inl 403)), ((7, []), .inr (.inl 411)), ((8, []), .inr (.inl 412)), ((3, []), zaI), ((4, []), zaI), ((5, []), zaI), ((6, []), zaI)])) (.leaf (401, 103, 5, .inr 3, [((0, []), zaI), ((1, []), .inr (.inr (.inr (.inl (0, 1))))), ((2, []), zaI), ((3, []), .inr (.inl 401)), ((4, []), .inr (.inl 402))])))))) (.branch 407 (.branch 404 (.branch 402 (.leaf (402, 0, 2, .inl ((-2147483648), 2147483647), [])) (.branch 403 (.leaf (403, 0, 12, .inl ((-2147483648), 2147483647), [])) (.leaf (404, 107, 14, .inr 3, [((0, []), zaI), ((1, []), zaI), ((2, []), zaI), ((3, []), zaI), ((4, []), zaI), ((5, []), .inr (.inr (.inr (.inl (0, 1))))), ((6, []), .inr (.inr (.inr (.inl (0, 20))))), ((7, []), .inr (.inl 404)), ((8, []), .inr (.inl 405)), ((9, []), .inr (.inl 406)), ((10, []), .inr (.inl 407)), ((11, []), .inr (.inl 408)), ((12, []), .inr (.inl 409)), ((13, []), .inr (.inl 410))])))) (.branch 405 (.leaf (405, 0, 20, .inl ((-2147483648), 2147483647), [])) (.branch 406 (.leaf (406, 0, 2, .inl ((-2147483648), 2147483647), [])) (.leaf (407, 0, 12, .inl ((-2147483648), 2147483647), []))))) (.branch 410 (.branch 408 (.leaf (408, 0, 12, .inl ((-2147483648), 2147483647), [])) (.branch 409 (.leaf (409, 0, 3, .inl (0, 12), [])) (.leaf (410, 0, 36, .inl (0, 11), [])))) (.branch 411 (.leaf (411, 0, 16, .inl ((-2147483648), 2147483647), [])) (.branch 412 (.leaf (412, 0, 2, .inl ((-2147483648), 2147483647), [])) (.leaf (413, 0, 3, .inl ((-2147483648), 2147483647), [])))))), [(0, 1800)], [], []), [.inr (.inr (398, (1, [])))], (1800, [(0, (-1))]))]
def zs_5118 : List zCt := [zc_5113, zc_5110, zc_5112]
theorem za_5118 : zwin zw_5118 zc_5118.2.2.2.2.2.1 = true := by decide +kernel
theorem z0_5118 : zst0 mi_P zw_5118 [] [] (fun d y as t en => zcal zw_5118 d y as t en zs_5118) zc_5118 zp_5118 zu_5118 380 = true := by decide +kernel
theorem zk_5118 : zu_5118.all (zck mi_P zc_5118.2.1 zw_5118 false [] [] (fun d y as t en => zcal zw_5118 d y as t en zs_5118) zc_5118.2.2.2.1.length zc_5118.2.2.2.1 zc_5118.2.2.2.2.2.1 zp_5118 zu_5118 380) = true := by decide +kernel
theorem zt_5118 {S : Nat × (Nat → Int32)} : zCtr mi_P S zTt zc_5118 := by
  have hc : ∀ c ∈ zs_5118, zCtr mi_P S zTt c := by
    intro c hc
    simp only [zs_5118, List.mem_cons, List.not_mem_nil, or_false] at hc
    rcases hc with rfl | rfl | rfl
    · exact zt_5113
    · exact zt_5110
    · exact zt_5112
  exact zCtr_of (Om := zTt) (ct := zc_5118) (ps := zp_5118) (fun _ _ _ _ => trivial) rfl hc za_5118 z0_5118 zk_5118
/-- L$Planner.dayFrom(LAviaryLock$Now;)LAviaryLock$Day; -/
def zw_5119 : zW := .branch 404 (.branch 400 (.branch 398 (.branch 374 (.leaf (372, [0])) (.leaf (375, [0]))) (.branch 399 (.leaf (399, [1])) (.leaf (400, [3, 4, 5, 6])))) (.branch 402 (.branch 401 (.leaf (401, [0, 1, 2])) (.leaf (402, [0]))) (.branch 403 (.leaf (403, [0])) (.leaf (404, [0, 1, 2, 3, 4, 5, 6]))))) (.branch 408 (.branch 406 (.branch 405 (.leaf (405, [0])) (.leaf (406, [0]))) (.branch 407 (.leaf (407, [0])) (.leaf (408, [0])))) (.branch 410 (.branch 409 (.leaf (409, [0])) (.leaf (410, [0]))) (.branch 411 (.leaf (411, [0])) (.branch 412 (.leaf (412, [0])) (.leaf (413, [0]))))))
def zp_5119 : List (zPo × List (Nat ⊕ (Nat × zL))) := [(([], [], [(371, []), (374, []), (398, [((1, []), zaI)]), (399, [((3, []), zaI), ((4, []), zaI), ((5, []), zaI), ((6, []), zaI)]), (400, [((0, []), zaI), ((1, []), .inr (.inr (.inr (.inl (0, 1))))), ((2, []), zaI)]), (401, []), (402, []), (403, [((0, []), zaI), ((1, []), zaI), ((2, []), zaI), ((3, []), zaI), ((4, []), zaI), ((5, []), .inr (.inr (.inr (.inl (0, 1))))), ((6, []), .inr (.inr (.inr (.inl (0, 20)))))]), (404, []), (405, []), (406, []), (407, []), (408, []), (409, []), (410, []), (411, []), (412, [])], some (.inr (.inl 398))), [])]
def zc_5119 : zCt := (105, 6, [.inr (.inl 393), .inr (.inl 383)], [], [], .branch 389 (.branch 376 (.branch 370 (.branch 368 (.branch 367 (.leaf (367, 102, 11, .inr 3, [((0, []), .inr (.inl 367)), ((1, []), .inr (.inl 370)), ((5, []), .inr (.inr (.inr (.inl (0, 4))))), ((7, []), .inr (.inr (.inr (.inl (0, 12))))), ((8, []), .inr (.inl 376)), ((9, []), .inr (.inl 377)), ((10, []), .inr (.inl 378))])) (.leaf (368, 103, 5, .inr 3, [((0, []), zaI), ((1, []), .inr (.inr (.inr (.inl (0, 1))))), ((2, []), zaI), ((3, []), .inr (.inl 368)), ((4, []), .inr (.inl 369))]))) (.branch 369 (.leaf (369, 0, 2, .inl ((-2147483648), 2147483647), [])) (.leaf (370, 0, 12, .inl ((-2147483648), 2147483647), [])))) (.branch 372 (.branch 371 (.leaf (371, 104, 7, .inr 3, [((0, []), .inr (.inl 371)), ((4, []), .inr (.inl 372)), ((5, []), .inr (.inl 373)), ((6, []), .inr (.inl 374))])) (.leaf (372, 0, 6, .inl ((-2147483648), 2147483647), []))) (.branch 373 (.leaf (373, 0, 5, .inl (0, 540), [])) (.branch 374 (.leaf (374, 0, 540, .inr 1, [])) (.leaf (375, 0, 30, .inl ((-2147483648), 2147483647), [])))))) (.branch 384 (.branch 378 (.branch 377 (.leaf (377, 0, 12, .inl ((-2147483648), 2147483647), [])) (.leaf (378, 0, 12, .inl ((-2147483648), 2147483647), []))) (.branch 383 (.leaf (379, 0, 12, .inl ((-2147483648), 2147483647), [])) (.leaf (384, 107, 14, .inr 3, [((0, []), zaI), ((1, []), zaI), ((2, []), zaI), ((3, []), zaI), ((4, []), zaI), ((5, []), .inr (.inr (.inr (.inl (0, 1))))), ((6, []), .inr (.inr (.inr (.inl (0, 20))))), ((7, []), .inr (.inl 384)), ((8, []), .inr (.inl 385)), ((9, []), .inr (.inl 386)), ((10, []), .inr (.inl 387)), ((11, []), .inr (.inl 388)), ((12, []), .inr (.inl 389)), ((13, []), .inr (.inl 390))])))) (.branch 386 (.branch 385 (.leaf (385, 0, 20, .inl ((-2147483648), 2147483647), [])) (.leaf (386, 0, 2, .inl ((-2147483648), 2147483647), []))) (.branch 387 (.leaf (387, 0, 12, .inl ((-2147483648), 2147483647), [])) (.branch 388 (.leaf (388, 0, 12, .inl ((-2147483648), 2147483647), [])) (.leaf (389, 0, 3, .inl (0, 12), []))))))) (.branch 404 (.branch 399 (.branch 393 (.branch 390 (.leaf (390, 0, 36, .inl (0, 11), [])) (.leaf (391, 0, 16, .inl ((-2147483648), 2147483647), []))) (.branch 398 (.leaf (394, 110, 7, .inr 3, [((3, []), .inr (.inl 398))])) (.leaf (399, 111, 2, .inr 3, [((0, []), .inr (.inl 399)), ((1, []), zaI)])))) (.branch 401 (.branch 400 (.leaf (400, 109, 9, .inr 3, [((0, []), .inr (.inl 366)), ((1, []), .inr (.inl 400)), ((2, []), .inr (.inl 403)), ((3, []), zaI), ((4, []), zaI), ((5, []), zaI), ((6, []), zaI), ((7, []), .inr (.inl 411)), ((8, []), .inr (.inl 412))])) (.leaf (401, 103, 5, .inr 3, [((0, []), zaI), ((1, []), .inr (.inr (.inr (.inl (0, 1))))), ((2, []), zaI), ((3, []), .inr (.inl 401)), ((4, []), .inr (.inl 402))]))) (.branch 402 (.leaf (402, 0, 2, .inl ((-2147483648), 2147483647), [])) (.branch 403 (.leaf (403, 0, 12, .inl ((-2147483648), 2147483647), [])) (.leaf (404, 107, 14, .inr 3, [((0, []), zaI), ((1, []), zaI), ((2, []), zaI), ((3, []), zaI), ((4, []), zaI), ((5, []), .inr (.inr (.inr (.inl (0, 1))))), ((6, []), .inr (.inr (.inr (.inl (0, 20))))), ((7, []), .inr (.inl 404)), ((8, []), .inr (.inl 405)), ((9, []), .inr (.inl 406)), ((10, []), .inr (.inl 407)), ((11, []), .inr (.inl 408)), ((12, []), .inr (.inl 409)), ((13, []), .inr (.inl 410))])))))) (.branch 408 (.branch 406 (.branch 405 (.leaf (405, 0, 20, .inl ((-2147483648), 2147483647), [])) (.leaf (406, 0, 2, .inl ((-2147483648), 2147483647), []))) (.branch 407 (.leaf (407, 0, 12, .inl ((-2147483648), 2147483647), [])) (.leaf (408, 0, 12, .inl ((-2147483648), 2147483647), [])))) (.branch 410 (.branch 409 (.leaf (409, 0, 3, .inl (0, 12), [])) (.leaf (410, 0, 36, .inl (0, 11), []))) (.branch 411 (.leaf (411, 0, 16, .inl ((-2147483648), 2147483647), [])) (.branch 412 (.leaf (412, 0, 2, .inl ((-2147483648), 2147483647), [])) (.leaf (413, 0, 3, .inl ((-2147483648), 2147483647), []))))))), zw_5119, [], zp_5119.map (fun p => p.1))
def zu_5119 : List zCu := []
def zs_5119 : List zCt := [zc_5118]
theorem za_5119 : zwin zw_5119 zc_5119.2.2.2.2.2.1 = true := by decide +kernel
theorem z0_5119 : zst0 mi_P zw_5119 [] [] (fun d y as t en => zcal zw_5119 d y as t en zs_5119) zc_5119 zp_5119 zu_5119 474 = true := by decide +kernel
theorem zk_5119 : zu_5119.all (zck mi_P zc_5119.2.1 zw_5119 false [] [] (fun d y as t en => zcal zw_5119 d y as t en zs_5119) zc_5119.2.2.2.1.length zc_5119.2.2.2.1 zc_5119.2.2.2.2.2.1 zp_5119 zu_5119 474) = true := by decide +kernel
theorem zt_5119 {S : Nat × (Nat → Int32)} : zCtr mi_P S zTt zc_5119 := by
  have hc : ∀ c ∈ zs_5119, zCtr mi_P S zTt c := by
    intro c hc
    simp only [zs_5119, List.mem_cons, List.not_mem_nil, or_false] at hc
    rcases hc with rfl
    · exact zt_5118
  exact zCtr_of (Om := zTt) (ct := zc_5119) (ps := zp_5119) (fun _ _ _ _ => trivial) rfl hc za_5119 z0_5119 zk_5119
