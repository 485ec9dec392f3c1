/-- LModel.isCompared()Z -/
def zw_3018 : zW := .leaf (0, [])
def zq_3018_0 : zPo := ([], [], [], some (.inr (.inr (.inr (.inl (0, 1))))))
def zp_3018 : List (zPo × List (Nat ⊕ (Nat × zL))) := [(zq_3018_0, [])]
def zc_3018 : zCt := (197, 0, [.inr (.inl 469)], [], [], .branch 492 (.leaf (470, 112, 73, .inr 3, [((31, []), .inr (.inl 492)), ((38, []), .inr (.inr (.inr (.inl (1, 60)))))])) (.leaf (493, 0, 90, .inl (0, 8), [((0, []), .inl (8, []))])), zw_3018, [], zp_3018.map (fun p => p.1))
def zu_3018 : List zCu := [(([(197, 5, [(1, .inl (0, [(0, 1)])), (0, .inr (.inl 469))], [])], .branch 492 (.leaf (470, 112, 73, .inr 3, [((31, []), .inr (.inl 492)), ((38, []), .inr (.inr (.inr (.inl (1, 60)))))])) (.leaf (493, 0, 90, .inl (0, 8), [((0, []), .inl (8, []))])), [(0, 59)], [], []), [.inl (0, 1)], (0, [(0, 1)]))]
def zs_3018 : List zCt := []
theorem za_3018 : zwin zw_3018 zc_3018.2.2.2.2.2.1 = true := by decide +kernel
theorem z0_3018 : zst0 mi_P zw_3018 [] [(197, 7)] (fun d y as t en => zcal zw_3018 d y as t en zs_3018) zc_3018 zp_3018 zu_3018 2834 = true := by decide +kernel
theorem zk_3018 : zu_3018.all (zck mi_P zc_3018.2.1 zw_3018 false [] [(197, 7)] (fun d y as t en => zcal zw_3018 d y as t en zs_3018) zc_3018.2.2.2.1.length zc_3018.2.2.2.1 zc_3018.2.2.2.2.2.1 zp_3018 zu_3018 2834) = true := by decide +kernel
theorem zt_3018 {S : Nat × (Nat → Int32)} : zCtr mi_P S zTt zc_3018 := by
  have hc : ∀ c ∈ zs_3018, zCtr mi_P S zTt c := fun c hc => by cases hc
  exact zCtr_of (Om := zTt) (ct := zc_3018) (ps := zp_3018) (fun _ _ _ _ => trivial) rfl hc za_3018 z0_3018 zk_3018
