/-- LModel.unit()Z -/
def zw_3014 : zW := .branch 491 (.branch 481 (.leaf (470, [4, 5, 6, 7, 8, 9, 10, 36, 37, 38, 39])) (.branch 490 (.leaf (482, [0])) (.leaf (491, [0])))) (.branch 492 (.leaf (492, [0])) (.branch 493 (.leaf (493, [0])) (.leaf (494, [0]))))
def zq_3014_0 : zPo := ([], [], [(469, [((4, []), .inr (.inr (.inr (.inl (0, 4))))), ((5, []), zaI), ((6, []), .inr (.inr (.inr (.inl (0, 1600))))), ((7, []), .inr (.inr (.inr (.inl (0, 1600))))), ((8, []), .inr (.inr (.inr (.inl (0, 5))))), ((9, []), zaI), ((10, []), .inr (.inr (.inr (.inr 0)))), ((36, []), .inr (.inr (.inr (.inl (0, 1120))))), ((37, []), .inr (.inr (.inr (.inl ((-100), 7))))), ((38, []), .inr (.inr (.inr (.inl (0, 90))))), ((39, []), .inr (.inr (.inr (.inl (0, 30)))))]), (481, []), (490, []), (491, []), (492, [((0, [(9, 1)]), .inl (0, [(10, 1)]))]), (493, [((0, [(11, 1)]), .inl (0, [(12, 1)]))])], some (.inr (.inr (.inr (.inl (0, 1))))))
def zp_3014 : List (zPo × List (Nat ⊕ (Nat × zL))) := [(zq_3014_0, [])]
def zc_3014 : zCt := (191, 2, [.inr (.inl 469)], [(0, 1600), (0, 1600), (0, 1600), (0, 1), (1, 60), (0, 1119), (0, 60), (0, 30), (0, 7), (0, 89), (0, 8), (0, 89), ((-2147483648), 2147483647)], [(1, [(0, 1), (1, (-1))]), (0, [(1, 1), (2, (-1))]), (1, [(4, (-1)), (9, 1)]), (1, [(4, (-1)), (11, 1)])], .branch 490 (.branch 471 (.leaf (470, 112, 73, .inr 3, [((1, []), .inr (.inl 471)), ((3, []), .inl (0, [(2, 1)])), ((4, []), .inl (0, [])), ((5, []), zaI), ((6, []), .inl (0, [(0, 1)])), ((7, []), .inl (0, [(1, 1)])), ((8, []), .inr (.inr (.inr (.inl (1, 5))))), ((9, []), zaI), ((10, []), .inr (.inr (.inr (.inr 0)))), ((20, []), .inr (.inl 481)), ((29, []), .inr (.inl 490)), ((30, []), .inr (.inl 491)), ((31, []), .inr (.inl 492)), ((32, []), .inr (.inl 493)), ((35, []), .inl (0, [(3, 1)])), ((36, []), .inl (0, [(5, 1)])), ((37, []), .inl (0, [(8, 1)])), ((38, []), .inl (0, [(4, 1)])), ((39, []), .inl (0, [(7, 1)]))])) (.branch 481 (.leaf (472, 1, 1600, .inl ((-128), 127), [])) (.leaf (482, 0, 2, .inl (0, 60), [((0, [(3, 1)]), .inl (0, [(6, 1)]))])))) (.branch 492 (.branch 491 (.leaf (491, 0, 1120, .inl ((-2147483648), 2147483647), [])) (.leaf (492, 0, 1120, .inl ((-2147483648), 2147483647), []))) (.branch 493 (.leaf (493, 0, 90, .inl (0, 8), [((0, [(9, 1)]), .inl (0, [(10, 1)]))])) (.leaf (494, 0, 90, .inl ((-2147483648), 2147483647), [((0, [(11, 1)]), .inl (0, [(12, 1)]))])))), zw_3014, [.inr (469, (6, [])), .inr (469, (7, [])), .inr (469, (3, [])), .inr (469, (35, [])), .inr (469, (38, [])), .inr (469, (36, [])), .inr (481, (0, [(3, 1)])), .inr (469, (39, [])), .inr (469, (37, [])), .inl 0, .inr (492, (0, [(9, 1)])), .inl 0, .inr (493, (0, [(11, 1)]))], zp_3014.map (fun p => p.1))
def zu_3014 : List zCu := []
def zs_3014 : List zCt := [zc_3010, zc_3011, zc_3012, zc_3003, zc_3004]
theorem za_3014 : zwin zw_3014 zc_3014.2.2.2.2.2.1 = true := by decide +kernel
theorem z0_3014 : zst0 mi_P zw_3014 [] [] (fun d y as t en => zcal zw_3014 d y as t en zs_3014) zc_3014 zp_3014 zu_3014 11582 = true := by decide +kernel
theorem zk_3014 : zu_3014.all (zck mi_P zc_3014.2.1 zw_3014 false [] [] (fun d y as t en => zcal zw_3014 d y as t en zs_3014) zc_3014.2.2.2.1.length zc_3014.2.2.2.1 zc_3014.2.2.2.2.2.1 zp_3014 zu_3014 11582) = true := by decide +kernel
theorem zt_3014 {S : Nat × (Nat → Int32)} : zCtr mi_P S zTt zc_3014 := by
  have hc : ∀ c ∈ zs_3014, zCtr mi_P S zTt c := by
    intro c hc
    simp only [zs_3014, List.mem_cons, List.not_mem_nil, or_false] at hc
    rcases hc with rfl | rfl | rfl | rfl | rfl
    · exact zt_3010
    · exact zt_3011
    · exact zt_3012
    · exact zt_3003
    · exact zt_3004
  exact zCtr_of (Om := zTt) (ct := zc_3014) (ps := zp_3014) (fun _ _ _ _ => trivial) rfl hc za_3014 z0_3014 zk_3014
