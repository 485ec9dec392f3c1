/-- LModel.unit()Z -/
def zw_3015 : zW := .branch 491 (.branch 481 (.leaf (470, [4, 5, 6, 7, 8, 9, 10, 36, 37, 38, 39])) (.branch 490 (.leaf (482, [0])) (.leaf (491, [0])))) (.branch 492 (.leaf (492, [0])) (.branch 493 (.leaf (493, [0])) (.leaf (494, [0]))))
def zq_3015_0 : zPo := ([], [], [(469, [((4, []), .inr (.inr (.inr (.inl (0, 4))))), ((5, []), zaI), ((6, []), .inr (.inr (.inr (.inl (0, 1600))))), ((7, []), .inr (.inr (.inr (.inl (0, 1600))))), ((8, []), .inr (.inr (.inr (.inl (0, 5))))), ((9, []), zaI), ((10, []), .inr (.inr (.inr (.inr 0)))), ((36, []), .inr (.inr (.inr (.inl (0, 1120))))), ((37, []), .inr (.inr (.inr (.inl ((-100), 7))))), ((38, []), .inr (.inr (.inr (.inl (0, 90))))), ((39, []), .inr (.inr (.inr (.inl (0, 30)))))]), (481, []), (490, [((0, [(9, 1)]), .inl (0, [(10, 1)]))]), (491, []), (492, []), (493, [])], some (.inr (.inr (.inr (.inl (0, 1))))))
def zp_3015 : List (zPo × List (Nat ⊕ (Nat × zL))) := [(zq_3015_0, [])]
def zc_3015 : zCt := (191, 2, [.inr (.inl 469)], [(0, 1600), (0, 1600), (0, 1600), (0, 1), (1, 60), (0, 1119), (0, 60), (0, 30), (0, 7), (0, 1119), ((-2147483648), 2147483647)], [(1, [(0, 1), (1, (-1))]), (0, [(1, 1), (2, (-1))]), (1, [(5, (-1)), (9, 1)])], .branch 490 (.branch 471 (.leaf (470, 112, 73, .inr 3, [((1, []), .inr (.inl 471)), ((3, []), .inl (0, [(2, 1)])), ((4, []), .inl (0, [])), ((5, []), zaI), ((6, []), .inl (0, [(0, 1)])), ((7, []), .inl (0, [(1, 1)])), ((8, []), .inr (.inr (.inr (.inl (1, 5))))), ((9, []), zaI), ((10, []), .inr (.inr (.inr (.inr 0)))), ((20, []), .inr (.inl 481)), ((29, []), .inr (.inl 490)), ((30, []), .inr (.inl 491)), ((31, []), .inr (.inl 492)), ((32, []), .inr (.inl 493)), ((35, []), .inl (0, [(3, 1)])), ((36, []), .inl (0, [(5, 1)])), ((37, []), .inl (0, [(8, 1)])), ((38, []), .inl (0, [(4, 1)])), ((39, []), .inl (0, [(7, 1)]))])) (.branch 481 (.leaf (472, 1, 1600, .inl ((-128), 127), [])) (.leaf (482, 0, 2, .inl (0, 60), [((0, [(3, 1)]), .inl (0, [(6, 1)]))])))) (.branch 492 (.branch 491 (.leaf (491, 0, 1120, .inl ((-2147483648), 2147483647), [((0, [(9, 1)]), .inl (0, [(10, 1)]))])) (.leaf (492, 0, 1120, .inl ((-2147483648), 2147483647), []))) (.branch 493 (.leaf (493, 0, 90, .inl (0, 8), [])) (.leaf (494, 0, 90, .inl ((-2147483648), 2147483647), [])))), zw_3015, [.inr (469, (6, [])), .inr (469, (7, [])), .inr (469, (3, [])), .inr (469, (35, [])), .inr (469, (38, [])), .inr (469, (36, [])), .inr (481, (0, [(3, 1)])), .inr (469, (39, [])), .inr (469, (37, [])), .inl 0, .inr (490, (0, [(9, 1)]))], zp_3015.map (fun p => p.1))
def zu_3015 : List zCu := []
def zs_3015 : List zCt := [zc_3010, zc_3011, zc_3012, zc_3003]
theorem za_3015 : zwin zw_3015 zc_3015.2.2.2.2.2.1 = true := by decide +kernel
theorem z0_3015 : zst0 mi_P zw_3015 [] [] (fun d y as t en => zcal zw_3015 d y as t en zs_3015) zc_3015 zp_3015 zu_3015 12038 = true := by decide +kernel
theorem zk_3015 : zu_3015.all (zck mi_P zc_3015.2.1 zw_3015 false [] [] (fun d y as t en => zcal zw_3015 d y as t en zs_3015) zc_3015.2.2.2.1.length zc_3015.2.2.2.1 zc_3015.2.2.2.2.2.1 zp_3015 zu_3015 12038) = true := by decide +kernel
theorem zt_3015 {S : Nat × (Nat → Int32)} : zCtr mi_P S zTt zc_3015 := by
  have hc : ∀ c ∈ zs_3015, zCtr mi_P S zTt c := by
    intro c hc
    simp only [zs_3015, List.mem_cons, List.not_mem_nil, or_false] at hc
    rcases hc with rfl | rfl | rfl | rfl
    · exact zt_3010
    · exact zt_3011
    · exact zt_3012
    · exact zt_3003
  exact zCtr_of (Om := zTt) (ct := zc_3015) (ps := zp_3015) (fun _ _ _ _ => trivial) rfl hc za_3015 z0_3015 zk_3015
