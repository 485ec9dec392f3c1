/-- LModel.image(I)I -/
def zw_2096 : zW := .branch 508 (.leaf (508, [0])) (.leaf (509, [0]))
def zp_2096 : List (zPo × List (Nat ⊕ (Nat × zL))) := [(([], [], [(507, []), (508, [])], some (zaI)), [])]
def zc_2096 : zCt := (273, 1, [.inr (.inl 466), zaI], [], [], .branch 507 (.branch 492 (.leaf (467, 112, 73, .inr 3, [((40, []), .inr (.inl 492)), ((71, []), .inr (.inl 507)), ((72, []), .inr (.inl 508))])) (.leaf (493, 0, 69, .inr 2, []))) (.branch 508 (.leaf (508, 0, 207, .inr 2, [])) (.leaf (509, 2, 3, .inl (0, 1), []))), zw_2096, [], zp_2096.map (fun p => p.1))
def zu_2096 : List zCu := [(([(273, 9, [(2, .inl (0, [(1, 1)])), (0, .inr (.inl 466)), (1, .inl (0, [(0, 1)]))], [])], .branch 507 (.branch 492 (.leaf (467, 112, 73, .inr 3, [((40, []), .inr (.inl 492)), ((71, []), .inr (.inl 507)), ((72, []), .inr (.inl 508))])) (.leaf (493, 0, 69, .inr 2, []))) (.branch 508 (.leaf (508, 0, 207, .inr 2, [])) (.leaf (509, 2, 3, .inl (0, 1), []))), [(0, 2), (0, 69)], [], []), [.inl (0, 1), .inl (0, 2)], (69, [(1, (-1))]))]
def zs_2096 : List zCt := []
theorem za_2096 : zwin zw_2096 zc_2096.2.2.2.2.2.1 = true := by decide +kernel
theorem z0_2096 : zst0 mi_P zw_2096 [] [] (fun d y as t en => zcal zw_2096 d y as t en zs_2096) zc_2096 zp_2096 zu_2096 252 = true := by decide +kernel
theorem zk_2096 : zu_2096.all (zck mi_P zc_2096.2.1 zw_2096 false [] [] (fun d y as t en => zcal zw_2096 d y as t en zs_2096) zc_2096.2.2.2.1.length zc_2096.2.2.2.1 zc_2096.2.2.2.2.2.1 zp_2096 zu_2096 252) = true := by decide +kernel
theorem zt_2096 {S : Nat × (Nat → Int32)} : zCtr mi_P S zTt zc_2096 := by
  have hc : ∀ c ∈ zs_2096, zCtr mi_P S zTt c := fun c hc => by cases hc
  exact zCtr_of (Om := zTt) (ct := zc_2096) (ps := zp_2096) (fun _ _ _ _ => trivial) rfl hc za_2096 z0_2096 zk_2096
/-- LModel.back(I)I -/
def zw_2097 : zW := .branch 492 (.leaf (467, [53, 54])) (.leaf (493, [0]))
def zp_2097 : List (zPo × List (Nat ⊕ (Nat × zL))) := [(([], [], [(466, [((53, []), .inr (.inr (.inr (.inl (0, 40))))), ((54, []), .inr (.inr (.inr (.inl (0, 40)))))]), (492, [])], some (zaI)), [])]
def zc_2097 : zCt := (274, 1, [.inr (.inl 466), zaI], [], [], .branch 507 (.branch 492 (.leaf (467, 112, 73, .inr 3, [((40, []), .inr (.inl 492)), ((53, []), .inr (.inr (.inr (.inl (0, 40))))), ((54, []), .inr (.inr (.inr (.inl (0, 40))))), ((71, []), .inr (.inl 507)), ((72, []), .inr (.inl 508))])) (.leaf (493, 0, 69, .inr 2, []))) (.branch 508 (.leaf (508, 0, 207, .inr 2, [])) (.leaf (509, 2, 3, .inl (0, 1), []))), zw_2097, [], zp_2097.map (fun p => p.1))
def zu_2097 : List zCu := [(([(274, 14, [(2, .inl (0, [(1, 1)])), (0, .inr (.inl 466)), (1, .inl (0, [(0, 1)]))], [])], .branch 507 (.branch 492 (.leaf (467, 112, 73, .inr 3, [((40, []), .inr (.inl 492)), ((53, []), .inr (.inr (.inr (.inl (0, 40))))), ((54, []), .inr (.inr (.inr (.inl (0, 40))))), ((71, []), .inr (.inl 507)), ((72, []), .inr (.inl 508))])) (.leaf (493, 0, 69, .inr 2, []))) (.branch 508 (.leaf (508, 0, 207, .inr 2, [])) (.leaf (509, 2, 3, .inl (0, 1), []))), [(0, 2), (0, 69)], [], []), [.inl (0, 1), .inl (0, 2)], (69, [(1, (-1))]))]
def zs_2097 : List zCt := []
theorem za_2097 : zwin zw_2097 zc_2097.2.2.2.2.2.1 = true := by decide +kernel
theorem z0_2097 : zst0 mi_P zw_2097 [] [] (fun d y as t en => zcal zw_2097 d y as t en zs_2097) zc_2097 zp_2097 zu_2097 260 = true := by decide +kernel
theorem zk_2097 : zu_2097.all (zck mi_P zc_2097.2.1 zw_2097 false [] [] (fun d y as t en => zcal zw_2097 d y as t en zs_2097) zc_2097.2.2.2.1.length zc_2097.2.2.2.1 zc_2097.2.2.2.2.2.1 zp_2097 zu_2097 260) = true := by decide +kernel
theorem zt_2097 {S : Nat × (Nat → Int32)} : zCtr mi_P S zTt zc_2097 := by
  have hc : ∀ c ∈ zs_2097, zCtr mi_P S zTt c := fun c hc => by cases hc
  exact zCtr_of (Om := zTt) (ct := zc_2097) (ps := zp_2097) (fun _ _ _ _ => trivial) rfl hc za_2097 z0_2097 zk_2097
/-- LModel.about(I)I -/
def zw_2098 : zW := .leaf (0, [])
def zp_2098 : List (zPo × List (Nat ⊕ (Nat × zL))) := [(([], [], [], some (zaI)), [])]
def zc_2098 : zCt := (275, 2, [.inr (.inl 466), zaI], [], [], .branch 476 (.branch 470 (.branch 469 (.leaf (467, 112, 73, .inr 3, [((2, []), .inr (.inr (.inr (.inl (0, 1600))))), ((11, []), .inr (.inl 469)), ((12, []), .inr (.inl 470)), ((15, []), .inr (.inl 473)), ((18, []), .inr (.inl 476)), ((19, []), .inr (.inl 477)), ((20, []), .inr (.inl 478)), ((23, []), .inr (.inl 481)), ((34, []), .inr (.inr (.inr (.inl (0, 1))))), ((40, []), .inr (.inl 492)), ((53, []), .inr (.inr (.inr (.inl (0, 40))))), ((54, []), .inr (.inr (.inr (.inl (0, 40))))), ((59, []), .inr (.inr (.inr (.inl (0, 5))))), ((66, []), .inr (.inr (.inr (.inl (0, 30))))), ((67, []), .inr (.inr (.inr (.inl (0, 100000)))))])) (.leaf (470, 0, 2, .inl ((-2147483648), 2147483647), []))) (.branch 473 (.leaf (471, 0, 2, .inl ((-2147483648), 2147483647), [])) (.leaf (474, 0, 2, .inl ((-2147483648), 2147483647), [])))) (.branch 478 (.branch 477 (.leaf (477, 0, 2, .inl (0, 4), [])) (.leaf (478, 0, 2, .inl (0, 12), []))) (.branch 481 (.leaf (479, 0, 2, .inl (0, 60), [])) (.branch 492 (.leaf (482, 0, 24, .inl ((-2147483648), 2147483647), [])) (.leaf (493, 0, 69, .inr 2, []))))), zw_2098, [], zp_2098.map (fun p => p.1))
def zu_2098 : List zCu := []
def zs_2098 : List zCt := [zc_2026]
theorem za_2098 : zwin zw_2098 zc_2098.2.2.2.2.2.1 = true := by decide +kernel
theorem z0_2098 : zst0 mi_P zw_2098 [] [] (fun d y as t en => zcal zw_2098 d y as t en zs_2098) zc_2098 zp_2098 zu_2098 356 = true := by decide +kernel
theorem zk_2098 : zu_2098.all (zck mi_P zc_2098.2.1 zw_2098 false [] [] (fun d y as t en => zcal zw_2098 d y as t en zs_2098) zc_2098.2.2.2.1.length zc_2098.2.2.2.1 zc_2098.2.2.2.2.2.1 zp_2098 zu_2098 356) = true := by decide +kernel
theorem zt_2098 {S : Nat × (Nat → Int32)} : zCtr mi_P S zTt zc_2098 := by
  have hc : ∀ c ∈ zs_2098, zCtr mi_P S zTt c := by
    intro c hc
    simp only [zs_2098, List.mem_cons, List.not_mem_nil, or_false] at hc
    rcases hc with rfl
    · exact zt_2026
  exact zCtr_of (Om := zTt) (ct := zc_2098) (ps := zp_2098) (fun _ _ _ _ => trivial) rfl hc za_2098 z0_2098 zk_2098
/-- LModel.isOrder(II)Z -/
def zw_2099 : zW := .leaf (500, [0])
def zp_2099 : List (zPo × List (Nat ⊕ (Nat × zL))) := [(([], [], [(499, [])], some (.inr (.inr (.inr (.inl (0, 1)))))), [])]
def zc_2099 : zCt := (260, 0, [.inr (.inl 466), .inr (.inr (.inr (.inl (0, 2147483647)))), .inr (.inr (.inr (.inl (2, 5))))], [], [], .branch 499 (.leaf (467, 112, 73, .inr 3, [((57, []), .inr (.inl 499))])) (.leaf (500, 0, 5, .inl (0, 4), [])), zw_2099, [], zp_2099.map (fun p => p.1))
def zu_2099 : List zCu := [(([(260, 8, [(5, .inl (0, [(2, 1)])), (4, .inl (0, [(3, 1)])), (3, .inl (0, [(4, 1)])), (0, .inr (.inl 466)), (1, .inl (0, [(0, 1)])), (2, .inl (0, [(1, 1)]))], [])], .branch 499 (.leaf (467, 112, 73, .inr 3, [((57, []), .inr (.inl 499))])) (.leaf (500, 0, 5, .inl (0, 4), [])), [(0, 2147483647), (2, 5), ((-1), 4), ((-2147483648), 2147483647), (0, 2147483647)], [], []), [.inl (0, 1), .inl (0, 2), .inl (0, 5), .inl (0, 4), .inl (0, 3)], (1, [(2, 1)]))]
def zs_2099 : List zCt := []
theorem za_2099 : zwin zw_2099 zc_2099.2.2.2.2.2.1 = true := by decide +kernel
theorem z0_2099 : zst0 mi_P zw_2099 [] [] (fun d y as t en => zcal zw_2099 d y as t en zs_2099) zc_2099 zp_2099 zu_2099 272 = true := by decide +kernel
theorem zk_2099 : zu_2099.all (zck mi_P zc_2099.2.1 zw_2099 false [] [] (fun d y as t en => zcal zw_2099 d y as t en zs_2099) zc_2099.2.2.2.1.length zc_2099.2.2.2.1 zc_2099.2.2.2.2.2.1 zp_2099 zu_2099 272) = true := by decide +kernel
theorem zt_2099 {S : Nat × (Nat → Int32)} : zCtr mi_P S zTt zc_2099 := by
  have hc : ∀ c ∈ zs_2099, zCtr mi_P S zTt c := fun c hc => by cases hc
  exact zCtr_of (Om := zTt) (ct := zc_2099) (ps := zp_2099) (fun _ _ _ _ => trivial) rfl hc za_2099 z0_2099 zk_2099
/-- LModel.later(I)I -/
def zw_2103 : zW := .leaf (467, [67])
def zp_2103 : List (zPo × List (Nat ⊕ (Nat × zL))) := [(([], [], [(466, [((67, []), .inr (.inr (.inr (.inl (0, 100000)))))])], some (.inr (.inr (.inr (.inl ((-1), 101000)))))), [])]
def zc_2103 : zCt := (268, 1, [.inr (.inl 466), zaI], [], [], .leaf (467, 112, 73, .inr 3, [((67, []), .inr (.inr (.inr (.inl (0, 100000)))))]), zw_2103, [], zp_2103.map (fun p => p.1))
def zu_2103 : List zCu := []
def zs_2103 : List zCt := []
theorem za_2103 : zwin zw_2103 zc_2103.2.2.2.2.2.1 = true := by decide +kernel
theorem z0_2103 : zst0 mi_P zw_2103 [] [] (fun d y as t en => zcal zw_2103 d y as t en zs_2103) zc_2103 zp_2103 zu_2103 274 = true := by decide +kernel
theorem zk_2103 : zu_2103.all (zck mi_P zc_2103.2.1 zw_2103 false [] [] (fun d y as t en => zcal zw_2103 d y as t en zs_2103) zc_2103.2.2.2.1.length zc_2103.2.2.2.1 zc_2103.2.2.2.2.2.1 zp_2103 zu_2103 274) = true := by decide +kernel
theorem zt_2103 {S : Nat × (Nat → Int32)} : zCtr mi_P S zTt zc_2103 := by
  have hc : ∀ c ∈ zs_2103, zCtr mi_P S zTt c := fun c hc => by cases hc
  exact zCtr_of (Om := zTt) (ct := zc_2103) (ps := zp_2103) (fun _ _ _ _ => trivial) rfl hc za_2103 z0_2103 zk_2103
