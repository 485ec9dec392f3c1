/-- LModel.span(III)I -/
def zw_2068 : zW := .leaf (470, [68, 69, 70])
def zp_2068 : List (zPo × List (Nat ⊕ (Nat × zL))) := [(([], [], [(469, [((68, []), zaI), ((69, []), zaI), ((70, []), zaI)])], some (zaI)), [])]
def zc_2068 : zCt := (269, 2, [.inr (.inl 469), zaI, zaI, zaI], [], [], .branch 506 (.branch 504 (.branch 479 (.leaf (470, 112, 73, .inr 3, [((18, []), .inr (.inl 479)), ((34, []), .inr (.inr (.inr (.inl (0, 1))))), ((60, []), .inr (.inl 504)), ((61, []), .inr (.inl 505)), ((62, []), .inr (.inl 506)), ((63, []), .inr (.inl 507)), ((64, []), .inr (.inl 508)), ((65, []), .inr (.inl 509)), ((66, []), .inr (.inr (.inr (.inl (0, 30))))), ((68, []), zaI), ((69, []), zaI), ((70, []), zaI)])) (.leaf (480, 0, 2, .inl (0, 4), []))) (.branch 505 (.leaf (505, 0, 30, .inl ((-2147483648), 2147483647), [])) (.leaf (506, 0, 30, .inl ((-2147483648), 2147483647), [])))) (.branch 508 (.branch 507 (.leaf (507, 0, 30, .inl ((-2147483648), 2147483647), [])) (.leaf (508, 0, 30, .inl ((-2147483648), 2147483647), []))) (.branch 509 (.leaf (509, 0, 30, .inl ((-2147483648), 2147483647), [])) (.leaf (510, 0, 30, .inl ((-2147483648), 2147483647), [])))), zw_2068, [], zp_2068.map (fun p => p.1))
def zu_2068 : List zCu := []
def zs_2068 : List zCt := [zc_2033]
theorem za_2068 : zwin zw_2068 zc_2068.2.2.2.2.2.1 = true := by decide +kernel
theorem z0_2068 : zst0 mi_P zw_2068 [] [] (fun d y as t en => zcal zw_2068 d y as t en zs_2068) zc_2068 zp_2068 zu_2068 382 = true := by decide +kernel
theorem zk_2068 : zu_2068.all (zck mi_P zc_2068.2.1 zw_2068 false [] [] (fun d y as t en => zcal zw_2068 d y as t en zs_2068) zc_2068.2.2.2.1.length zc_2068.2.2.2.1 zc_2068.2.2.2.2.2.1 zp_2068 zu_2068 382) = true := by decide +kernel
theorem zt_2068 {S : Nat × (Nat → Int32)} : zCtr mi_P S zTt zc_2068 := by
  have hc : ∀ c ∈ zs_2068, zCtr mi_P S zTt c := by
    intro c hc
    simp only [zs_2068, List.mem_cons, List.not_mem_nil, or_false] at hc
    rcases hc with rfl
    · exact zt_2033
  exact zCtr_of (Om := zTt) (ct := zc_2068) (ps := zp_2068) (fun _ _ _ _ => trivial) rfl hc za_2068 z0_2068 zk_2068
/-- LModel.strangers(II)I -/
def zw_2069 : zW := .leaf (470, [68, 69, 70])
def zp_2069 : List (zPo × List (Nat ⊕ (Nat × zL))) := [(([], [], [(469, [((68, []), zaI), ((69, []), zaI), ((70, []), zaI)])], some (zaI)), [])]
def zc_2069 : zCt := (271, 2, [.inr (.inl 469), zaI, zaI], [], [], .branch 506 (.branch 504 (.branch 479 (.leaf (470, 112, 73, .inr 3, [((18, []), .inr (.inl 479)), ((34, []), .inr (.inr (.inr (.inl (0, 1))))), ((60, []), .inr (.inl 504)), ((61, []), .inr (.inl 505)), ((62, []), .inr (.inl 506)), ((63, []), .inr (.inl 507)), ((64, []), .inr (.inl 508)), ((65, []), .inr (.inl 509)), ((66, []), .inr (.inr (.inr (.inl (0, 30))))), ((68, []), zaI), ((69, []), zaI), ((70, []), zaI)])) (.leaf (480, 0, 2, .inl (0, 4), []))) (.branch 505 (.leaf (505, 0, 30, .inl ((-2147483648), 2147483647), [])) (.leaf (506, 0, 30, .inl ((-2147483648), 2147483647), [])))) (.branch 508 (.branch 507 (.leaf (507, 0, 30, .inl ((-2147483648), 2147483647), [])) (.leaf (508, 0, 30, .inl ((-2147483648), 2147483647), []))) (.branch 509 (.leaf (509, 0, 30, .inl ((-2147483648), 2147483647), [])) (.leaf (510, 0, 30, .inl ((-2147483648), 2147483647), [])))), zw_2069, [], zp_2069.map (fun p => p.1))
def zu_2069 : List zCu := []
def zs_2069 : List zCt := [zc_2033]
theorem za_2069 : zwin zw_2069 zc_2069.2.2.2.2.2.1 = true := by decide +kernel
theorem z0_2069 : zst0 mi_P zw_2069 [] [] (fun d y as t en => zcal zw_2069 d y as t en zs_2069) zc_2069 zp_2069 zu_2069 280 = true := by decide +kernel
theorem zk_2069 : zu_2069.all (zck mi_P zc_2069.2.1 zw_2069 false [] [] (fun d y as t en => zcal zw_2069 d y as t en zs_2069) zc_2069.2.2.2.1.length zc_2069.2.2.2.1 zc_2069.2.2.2.2.2.1 zp_2069 zu_2069 280) = true := by decide +kernel
theorem zt_2069 {S : Nat × (Nat → Int32)} : zCtr mi_P S zTt zc_2069 := by
  have hc : ∀ c ∈ zs_2069, zCtr mi_P S zTt c := by
    intro c hc
    simp only [zs_2069, List.mem_cons, List.not_mem_nil, or_false] at hc
    rcases hc with rfl
    · exact zt_2033
  exact zCtr_of (Om := zTt) (ct := zc_2069) (ps := zp_2069) (fun _ _ _ _ => trivial) rfl hc za_2069 z0_2069 zk_2069
/-- LModel.lost(II)I -/
def zw_2070 : zW := .leaf (470, [68, 69, 70])
def zp_2070 : List (zPo × List (Nat ⊕ (Nat × zL))) := [(([], [], [(469, [((68, []), zaI), ((69, []), zaI), ((70, []), zaI)])], some (.inr (.inr (.inr (.inl ((-1), 2147483647)))))), [])]
def zc_2070 : zCt := (272, 2, [.inr (.inl 469), zaI, zaI], [], [], .branch 505 (.branch 482 (.branch 479 (.leaf (470, 112, 73, .inr 3, [((18, []), .inr (.inl 479)), ((21, []), .inr (.inl 482)), ((34, []), .inr (.inr (.inr (.inl (0, 1))))), ((60, []), .inr (.inl 504)), ((61, []), .inr (.inl 505)), ((62, []), .inr (.inl 506)), ((63, []), .inr (.inl 507)), ((64, []), .inr (.inl 508)), ((65, []), .inr (.inl 509)), ((66, []), .inr (.inr (.inr (.inl (0, 30))))), ((68, []), zaI), ((69, []), zaI), ((70, []), zaI)])) (.leaf (480, 0, 2, .inl (0, 4), []))) (.branch 504 (.leaf (483, 0, 8, .inl ((-2147483648), 2147483647), [])) (.leaf (505, 0, 30, .inl ((-2147483648), 2147483647), [])))) (.branch 507 (.branch 506 (.leaf (506, 0, 30, .inl ((-2147483648), 2147483647), [])) (.leaf (507, 0, 30, .inl ((-2147483648), 2147483647), []))) (.branch 508 (.leaf (508, 0, 30, .inl ((-2147483648), 2147483647), [])) (.branch 509 (.leaf (509, 0, 30, .inl ((-2147483648), 2147483647), [])) (.leaf (510, 0, 30, .inl ((-2147483648), 2147483647), []))))), zw_2070, [], zp_2070.map (fun p => p.1))
def zu_2070 : List zCu := []
def zs_2070 : List zCt := [zc_2033]
theorem za_2070 : zwin zw_2070 zc_2070.2.2.2.2.2.1 = true := by decide +kernel
theorem z0_2070 : zst0 mi_P zw_2070 [] [] (fun d y as t en => zcal zw_2070 d y as t en zs_2070) zc_2070 zp_2070 zu_2070 426 = true := by decide +kernel
theorem zk_2070 : zu_2070.all (zck mi_P zc_2070.2.1 zw_2070 false [] [] (fun d y as t en => zcal zw_2070 d y as t en zs_2070) zc_2070.2.2.2.1.length zc_2070.2.2.2.1 zc_2070.2.2.2.2.2.1 zp_2070 zu_2070 426) = true := by decide +kernel
theorem zt_2070 {S : Nat × (Nat → Int32)} : zCtr mi_P S zTt zc_2070 := by
  have hc : ∀ c ∈ zs_2070, zCtr mi_P S zTt c := by
    intro c hc
    simp only [zs_2070, List.mem_cons, List.not_mem_nil, or_false] at hc
    rcases hc with rfl
    · exact zt_2033
  exact zCtr_of (Om := zTt) (ct := zc_2070) (ps := zp_2070) (fun _ _ _ _ => trivial) rfl hc za_2070 z0_2070 zk_2070
/-- LModel.image(I)I -/
def zw_2071 : zW := .branch 511 (.leaf (511, [0])) (.leaf (512, [0]))
def zp_2071 : List (zPo × List (Nat ⊕ (Nat × zL))) := [(([], [], [(510, []), (511, [])], some (zaI)), [])]
def zc_2071 : zCt := (273, 1, [.inr (.inl 469), zaI], [], [], .branch 510 (.branch 495 (.leaf (470, 112, 73, .inr 3, [((40, []), .inr (.inl 495)), ((71, []), .inr (.inl 510)), ((72, []), .inr (.inl 511))])) (.leaf (496, 0, 69, .inr 2, []))) (.branch 511 (.leaf (511, 0, 207, .inr 2, [])) (.leaf (512, 2, 3, .inl (0, 1), []))), zw_2071, [], zp_2071.map (fun p => p.1))
def zu_2071 : List zCu := [(([(273, 9, [(2, .inl (0, [(1, 1)])), (0, .inr (.inl 469)), (1, .inl (0, [(0, 1)]))], [])], .branch 510 (.branch 495 (.leaf (470, 112, 73, .inr 3, [((40, []), .inr (.inl 495)), ((71, []), .inr (.inl 510)), ((72, []), .inr (.inl 511))])) (.leaf (496, 0, 69, .inr 2, []))) (.branch 511 (.leaf (511, 0, 207, .inr 2, [])) (.leaf (512, 2, 3, .inl (0, 1), []))), [(0, 2), (0, 69)], [], []), [.inl (0, 1), .inl (0, 2)], (69, [(1, (-1))]))]
def zs_2071 : List zCt := []
theorem za_2071 : zwin zw_2071 zc_2071.2.2.2.2.2.1 = true := by decide +kernel
theorem z0_2071 : zst0 mi_P zw_2071 [] [] (fun d y as t en => zcal zw_2071 d y as t en zs_2071) zc_2071 zp_2071 zu_2071 252 = true := by decide +kernel
theorem zk_2071 : zu_2071.all (zck mi_P zc_2071.2.1 zw_2071 false [] [] (fun d y as t en => zcal zw_2071 d y as t en zs_2071) zc_2071.2.2.2.1.length zc_2071.2.2.2.1 zc_2071.2.2.2.2.2.1 zp_2071 zu_2071 252) = true := by decide +kernel
theorem zt_2071 {S : Nat × (Nat → Int32)} : zCtr mi_P S zTt zc_2071 := by
  have hc : ∀ c ∈ zs_2071, zCtr mi_P S zTt c := fun c hc => by cases hc
  exact zCtr_of (Om := zTt) (ct := zc_2071) (ps := zp_2071) (fun _ _ _ _ => trivial) rfl hc za_2071 z0_2071 zk_2071
/-- LModel.back(I)I -/
def zw_2072 : zW := .branch 495 (.leaf (470, [53, 54])) (.leaf (496, [0]))
def zp_2072 : List (zPo × List (Nat ⊕ (Nat × zL))) := [(([(0, 40), (0, 40)], [((-40), [(2, 1), (3, 1)])], [(469, [((53, []), .inl (0, [(2, 1)])), ((54, []), .inl (0, [(3, 1)]))]), (495, [])], some (zaI)), [.inr (469, (53, [])), .inr (469, (54, []))])]
def zc_2072 : zCt := (274, 1, [.inr (.inl 469), zaI], [(0, 40), (0, 40)], [((-40), [(0, 1), (1, 1)])], .branch 510 (.branch 495 (.leaf (470, 112, 73, .inr 3, [((40, []), .inr (.inl 495)), ((53, []), .inl (0, [(0, 1)])), ((54, []), .inl (0, [(1, 1)])), ((71, []), .inr (.inl 510)), ((72, []), .inr (.inl 511))])) (.leaf (496, 0, 69, .inr 2, []))) (.branch 511 (.leaf (511, 0, 207, .inr 2, [])) (.leaf (512, 2, 3, .inl (0, 1), []))), zw_2072, [.inr (469, (53, [])), .inr (469, (54, []))], zp_2072.map (fun p => p.1))
def zu_2072 : List zCu := [(([(274, 14, [(2, .inl (0, [(3, 1)])), (0, .inr (.inl 469)), (1, .inl (0, [(2, 1)]))], [])], .branch 510 (.branch 495 (.leaf (470, 112, 73, .inr 3, [((40, []), .inr (.inl 495)), ((53, []), .inl (0, [(0, 1)])), ((54, []), .inl (0, [(1, 1)])), ((71, []), .inr (.inl 510)), ((72, []), .inr (.inl 511))])) (.leaf (496, 0, 69, .inr 2, []))) (.branch 511 (.leaf (511, 0, 207, .inr 2, [])) (.leaf (512, 2, 3, .inl (0, 1), []))), [(0, 40), (0, 40), (0, 2), (0, 69)], [((-40), [(0, 1), (1, 1)])], []), [.inl (0, 1), .inl (0, 2)], (69, [(3, (-1))]))]
def zs_2072 : List zCt := []
theorem za_2072 : zwin zw_2072 zc_2072.2.2.2.2.2.1 = true := by decide +kernel
theorem z0_2072 : zst0 mi_P zw_2072 [] [] (fun d y as t en => zcal zw_2072 d y as t en zs_2072) zc_2072 zp_2072 zu_2072 260 = true := by decide +kernel
theorem zk_2072 : zu_2072.all (zck mi_P zc_2072.2.1 zw_2072 false [] [] (fun d y as t en => zcal zw_2072 d y as t en zs_2072) zc_2072.2.2.2.1.length zc_2072.2.2.2.1 zc_2072.2.2.2.2.2.1 zp_2072 zu_2072 260) = true := by decide +kernel
theorem zt_2072 {S : Nat × (Nat → Int32)} : zCtr mi_P S zTt zc_2072 := by
  have hc : ∀ c ∈ zs_2072, zCtr mi_P S zTt c := fun c hc => by cases hc
  exact zCtr_of (Om := zTt) (ct := zc_2072) (ps := zp_2072) (fun _ _ _ _ => trivial) rfl hc za_2072 z0_2072 zk_2072
/-- LModel.about(I)I -/
def zw_2073 : zW := .leaf (0, [])
def zp_2073 : List (zPo × List (Nat ⊕ (Nat × zL))) := [(([], [], [], some (zaI)), [])]
def zc_2073 : zCt := (275, 2, [.inr (.inl 469), zaI], [], [], .branch 479 (.branch 473 (.branch 472 (.leaf (470, 112, 73, .inr 3, [((2, []), .inr (.inr (.inr (.inl (0, 1600))))), ((11, []), .inr (.inl 472)), ((12, []), .inr (.inl 473)), ((15, []), .inr (.inl 476)), ((18, []), .inr (.inl 479)), ((19, []), .inr (.inl 480)), ((20, []), .inr (.inl 481)), ((23, []), .inr (.inl 484)), ((34, []), .inr (.inr (.inr (.inl (0, 1))))), ((40, []), .inr (.inl 495)), ((53, []), .inr (.inr (.inr (.inl (0, 40))))), ((54, []), .inr (.inr (.inr (.inl (0, 40))))), ((59, []), .inr (.inr (.inr (.inl (0, 5))))), ((66, []), .inr (.inr (.inr (.inl (0, 30))))), ((67, []), .inr (.inr (.inr (.inl (0, 100000)))))])) (.leaf (473, 0, 2, .inl ((-2147483648), 2147483647), []))) (.branch 476 (.leaf (474, 0, 2, .inl ((-2147483648), 2147483647), [])) (.leaf (477, 0, 2, .inl ((-2147483648), 2147483647), [])))) (.branch 481 (.branch 480 (.leaf (480, 0, 2, .inl (0, 4), [])) (.leaf (481, 0, 2, .inl (0, 12), []))) (.branch 484 (.leaf (482, 0, 2, .inl (0, 60), [])) (.branch 495 (.leaf (485, 0, 24, .inl ((-2147483648), 2147483647), [])) (.leaf (496, 0, 69, .inr 2, []))))), zw_2073, [], zp_2073.map (fun p => p.1))
def zu_2073 : List zCu := []
def zs_2073 : List zCt := [zc_2001]
theorem za_2073 : zwin zw_2073 zc_2073.2.2.2.2.2.1 = true := by decide +kernel
theorem z0_2073 : zst0 mi_P zw_2073 [] [] (fun d y as t en => zcal zw_2073 d y as t en zs_2073) zc_2073 zp_2073 zu_2073 356 = true := by decide +kernel
theorem zk_2073 : zu_2073.all (zck mi_P zc_2073.2.1 zw_2073 false [] [] (fun d y as t en => zcal zw_2073 d y as t en zs_2073) zc_2073.2.2.2.1.length zc_2073.2.2.2.1 zc_2073.2.2.2.2.2.1 zp_2073 zu_2073 356) = true := by decide +kernel
theorem zt_2073 {S : Nat × (Nat → Int32)} : zCtr mi_P S zTt zc_2073 := by
  have hc : ∀ c ∈ zs_2073, zCtr mi_P S zTt c := by
    intro c hc
    simp only [zs_2073, List.mem_cons, List.not_mem_nil, or_false] at hc
    rcases hc with rfl
    · exact zt_2001
  exact zCtr_of (Om := zTt) (ct := zc_2073) (ps := zp_2073) (fun _ _ _ _ => trivial) rfl hc za_2073 z0_2073 zk_2073
/-- LModel.isOrder(II)Z -/
def zw_2074 : zW := .leaf (503, [0])
def zp_2074 : List (zPo × List (Nat ⊕ (Nat × zL))) := [(([], [], [(502, [])], some (.inr (.inr (.inr (.inl (0, 1)))))), [])]
def zc_2074 : zCt := (260, 0, [.inr (.inl 469), .inr (.inr (.inr (.inl (0, 2147483647)))), .inr (.inr (.inr (.inl (2, 5))))], [], [], .branch 502 (.leaf (470, 112, 73, .inr 3, [((57, []), .inr (.inl 502))])) (.leaf (503, 0, 5, .inl (0, 4), [])), zw_2074, [], zp_2074.map (fun p => p.1))
def zu_2074 : List zCu := [(([(260, 8, [(5, .inl (0, [(2, 1)])), (4, .inl (0, [(3, 1)])), (3, .inl (0, [(4, 1)])), (0, .inr (.inl 469)), (1, .inl (0, [(0, 1)])), (2, .inl (0, [(1, 1)]))], [])], .branch 502 (.leaf (470, 112, 73, .inr 3, [((57, []), .inr (.inl 502))])) (.leaf (503, 0, 5, .inl (0, 4), [])), [(0, 2147483647), (2, 5), ((-1), 4), ((-2147483648), 2147483647), (0, 2147483647)], [], []), [.inl (0, 1), .inl (0, 2), .inl (0, 5), .inl (0, 4), .inl (0, 3)], (1, [(2, 1)]))]
def zs_2074 : List zCt := []
theorem za_2074 : zwin zw_2074 zc_2074.2.2.2.2.2.1 = true := by decide +kernel
theorem z0_2074 : zst0 mi_P zw_2074 [] [] (fun d y as t en => zcal zw_2074 d y as t en zs_2074) zc_2074 zp_2074 zu_2074 272 = true := by decide +kernel
theorem zk_2074 : zu_2074.all (zck mi_P zc_2074.2.1 zw_2074 false [] [] (fun d y as t en => zcal zw_2074 d y as t en zs_2074) zc_2074.2.2.2.1.length zc_2074.2.2.2.1 zc_2074.2.2.2.2.2.1 zp_2074 zu_2074 272) = true := by decide +kernel
theorem zt_2074 {S : Nat × (Nat → Int32)} : zCtr mi_P S zTt zc_2074 := by
  have hc : ∀ c ∈ zs_2074, zCtr mi_P S zTt c := fun c hc => by cases hc
  exact zCtr_of (Om := zTt) (ct := zc_2074) (ps := zp_2074) (fun _ _ _ _ => trivial) rfl hc za_2074 z0_2074 zk_2074
/-- LModel.later(I)I -/
def zw_2078 : zW := .leaf (470, [67])
def zp_2078 : List (zPo × List (Nat ⊕ (Nat × zL))) := [(([], [], [(469, [((67, []), .inr (.inr (.inr (.inl (0, 100000)))))])], some (.inr (.inr (.inr (.inl ((-1), 101000)))))), [])]
def zc_2078 : zCt := (268, 1, [.inr (.inl 469), zaI], [], [], .leaf (470, 112, 73, .inr 3, [((67, []), .inr (.inr (.inr (.inl (0, 100000)))))]), zw_2078, [], zp_2078.map (fun p => p.1))
def zu_2078 : List zCu := []
def zs_2078 : List zCt := []
theorem za_2078 : zwin zw_2078 zc_2078.2.2.2.2.2.1 = true := by decide +kernel
theorem z0_2078 : zst0 mi_P zw_2078 [] [] (fun d y as t en => zcal zw_2078 d y as t en zs_2078) zc_2078 zp_2078 zu_2078 274 = true := by decide +kernel
theorem zk_2078 : zu_2078.all (zck mi_P zc_2078.2.1 zw_2078 false [] [] (fun d y as t en => zcal zw_2078 d y as t en zs_2078) zc_2078.2.2.2.1.length zc_2078.2.2.2.1 zc_2078.2.2.2.2.2.1 zp_2078 zu_2078 274) = true := by decide +kernel
theorem zt_2078 {S : Nat × (Nat → Int32)} : zCtr mi_P S zTt zc_2078 := by
  have hc : ∀ c ∈ zs_2078, zCtr mi_P S zTt c := fun c hc => by cases hc
  exact zCtr_of (Om := zTt) (ct := zc_2078) (ps := zp_2078) (fun _ _ _ _ => trivial) rfl hc za_2078 z0_2078 zk_2078
