/-- LModel.unit()Z -/
def zw_3016 : zW := .branch 491 (.branch 481 (.leaf (470, [4, 5, 6, 7, 8, 9, 10, 36, 37, 38, 39])) (.branch 490 (.leaf (482, [0])) (.leaf (491, [0])))) (.branch 492 (.leaf (492, [0])) (.branch 493 (.leaf (493, [0])) (.leaf (494, [0]))))
def zq_3016_0 : zPo := ([], [], [(469, [((4, []), .inr (.inr (.inr (.inl (0, 4))))), ((5, []), zaI), ((6, []), .inr (.inr (.inr (.inl (0, 1600))))), ((7, []), .inr (.inr (.inr (.inl (0, 1600))))), ((8, []), .inr (.inr (.inr (.inl (0, 5))))), ((9, []), zaI), ((10, []), .inr (.inr (.inr (.inr 0)))), ((36, []), .inr (.inr (.inr (.inl (0, 1120))))), ((37, []), .inr (.inr (.inr (.inl ((-100), 7))))), ((38, []), .inr (.inr (.inr (.inl (0, 90))))), ((39, []), .inr (.inr (.inr (.inl (0, 30)))))]), (481, []), (490, [((0, [(9, 1)]), .inl (0, [(10, 1)]))]), (491, []), (492, []), (493, [])], some (.inr (.inr (.inr (.inl (0, 1))))))
def zp_3016 : List (zPo × List (Nat ⊕ (Nat × zL))) := [(zq_3016_0, [])]
def zc_3016 : zCt := (191, 2, [.inr (.inl 469)], [(0, 1600), (0, 1600), (0, 1600), (0, 1), (1, 60), (0, 1119), (0, 60), (0, 30), (0, 7), (0, 1119), ((-2147483648), 2147483647)], [(1, [(0, 1), (1, (-1))]), (0, [(1, 1), (2, (-1))]), (1, [(5, 1), (9, (-1))])], .branch 490 (.branch 471 (.leaf (470, 112, 73, .inr 3, [((1, []), .inr (.inl 471)), ((3, []), .inl (0, [(2, 1)])), ((4, []), .inl (0, [])), ((5, []), zaI), ((6, []), .inl (0, [(0, 1)])), ((7, []), .inl (0, [(1, 1)])), ((8, []), .inr (.inr (.inr (.inl (1, 5))))), ((9, []), zaI), ((10, []), .inr (.inr (.inr (.inr 0)))), ((20, []), .inr (.inl 481)), ((29, []), .inr (.inl 490)), ((30, []), .inr (.inl 491)), ((31, []), .inr (.inl 492)), ((32, []), .inr (.inl 493)), ((35, []), .inl (0, [(3, 1)])), ((36, []), .inl (0, [(5, 1)])), ((37, []), .inl (0, [(8, 1)])), ((38, []), .inl (0, [(4, 1)])), ((39, []), .inl (0, [(7, 1)]))])) (.branch 481 (.leaf (472, 1, 1600, .inl ((-128), 127), [])) (.leaf (482, 0, 2, .inl (0, 60), [((0, [(3, 1)]), .inl (0, [(6, 1)]))])))) (.branch 492 (.branch 491 (.leaf (491, 0, 1120, .inl ((-2147483648), 2147483647), [((0, [(9, 1)]), .inl (0, [(10, 1)]))])) (.leaf (492, 0, 1120, .inl ((-2147483648), 2147483647), []))) (.branch 493 (.leaf (493, 0, 90, .inl (0, 8), [])) (.leaf (494, 0, 90, .inl ((-2147483648), 2147483647), [])))), zw_3016, [.inr (469, (6, [])), .inr (469, (7, [])), .inr (469, (3, [])), .inr (469, (35, [])), .inr (469, (38, [])), .inr (469, (36, [])), .inr (481, (0, [(3, 1)])), .inr (469, (39, [])), .inr (469, (37, [])), .inl 0, .inr (490, (0, [(9, 1)]))], zp_3016.map (fun p => p.1))
def zu_3016 : List zCu := []
def zs_3016 : List zCt := [zc_3010, zc_3011, zc_3012, zc_3003]
theorem za_3016 : zwin zw_3016 zc_3016.2.2.2.2.2.1 = true := by decide +kernel
theorem z0_3016 : zst0 mi_P zw_3016 [] [] (fun d y as t en => zcal zw_3016 d y as t en zs_3016) zc_3016 zp_3016 zu_3016 12038 = true := by decide +kernel
theorem zk_3016 : zu_3016.all (zck mi_P zc_3016.2.1 zw_3016 false [] [] (fun d y as t en => zcal zw_3016 d y as t en zs_3016) zc_3016.2.2.2.1.length zc_3016.2.2.2.1 zc_3016.2.2.2.2.2.1 zp_3016 zu_3016 12038) = true := by decide +kernel
theorem zt_3016 {S : Nat × (Nat → Int32)} : zCtr mi_P S zTt zc_3016 := by
  have hc : ∀ c ∈ zs_3016, zCtr mi_P S zTt c := by
    intro c hc
    simp only [zs_3016, List.mem_cons, List.not_mem_nil, or_false] at hc
    rcases hc with rfl | rfl | rfl | rfl
    · exact zt_3010
    · exact zt_3011
    · exact zt_3012
    · exact zt_3003
  exact zCtr_of (Om := zTt) (ct := zc_3016) (ps := zp_3016) (fun _ _ _ _ => trivial) rfl hc za_3016 z0_3016 zk_3016
/-- LModel.unit()Z -/
def zw_3017 : zW := .leaf (470, [4, 5])
def zq_3017_0 : zPo := ([], [], [(469, [((4, []), .inr (.inr (.inr (.inl (1, 4))))), ((5, []), zaI)])], some (.inl (1, [])))
def zp_3017 : List (zPo × List (Nat ⊕ (Nat × zL))) := [(zq_3017_0, [])]
def zc_3017 : zCt := (191, 2, [.inr (.inl 469)], [(0, 1600)], [], .branch 481 (.leaf (470, 112, 73, .inr 3, [((3, []), .inl (0, [(0, 1)])), ((4, []), .inl (0, [])), ((5, []), zaI), ((6, []), .inl (0, [(0, 1)])), ((7, []), .inl (0, [(0, 1)])), ((8, []), .inl (0, [])), ((20, []), .inr (.inl 481)), ((31, []), .inr (.inl 492)), ((35, []), .inr (.inr (.inr (.inl (0, 1))))), ((38, []), .inr (.inr (.inr (.inl (1, 60))))), ((39, []), .inr (.inr (.inr (.inl (0, 30)))))])) (.branch 492 (.leaf (482, 0, 2, .inl (0, 60), [])) (.leaf (493, 0, 90, .inl (0, 8), []))), zw_3017, [.inr (469, (7, []))], zp_3017.map (fun p => p.1))
def zu_3017 : List zCu := []
def zs_3017 : List zCt := [zc_3007, zc_3008, zc_3009]
theorem za_3017 : zwin zw_3017 zc_3017.2.2.2.2.2.1 = true := by decide +kernel
theorem z0_3017 : zst0 mi_P zw_3017 [] [] (fun d y as t en => zcal zw_3017 d y as t en zs_3017) zc_3017 zp_3017 zu_3017 1186 = true := by decide +kernel
theorem zk_3017 : zu_3017.all (zck mi_P zc_3017.2.1 zw_3017 false [] [] (fun d y as t en => zcal zw_3017 d y as t en zs_3017) zc_3017.2.2.2.1.length zc_3017.2.2.2.1 zc_3017.2.2.2.2.2.1 zp_3017 zu_3017 1186) = true := by decide +kernel
theorem zt_3017 {S : Nat × (Nat → Int32)} : zCtr mi_P S zTt zc_3017 := by
  have hc : ∀ c ∈ zs_3017, zCtr mi_P S zTt c := by
    intro c hc
    simp only [zs_3017, List.mem_cons, List.not_mem_nil, or_false] at hc
    rcases hc with rfl | rfl | rfl
    · exact zt_3007
    · exact zt_3008
    · exact zt_3009
  exact zCtr_of (Om := zTt) (ct := zc_3017) (ps := zp_3017) (fun _ _ _ _ => trivial) rfl hc za_3017 z0_3017 zk_3017
