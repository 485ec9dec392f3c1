/-! String.checkIndex, by hand -/
def zc_283000 : zCt := (283, 2, [.inl (0, [(0, 1)]), .inl (0, [(1, 1)])], [(0, 10000), (0, 10000)], [(1, [(0, 1), (1, -1)])], .leaf (0, 0, 0, .inr 3, []), .leaf (0, []), [.inl 0, .inl 1], [([], [], [], none)])
theorem zt_283000 {S : Nat × (Nat → Int32)} : zCtr mi_P S zTt zc_283000 := by
  refine ⟨by decide +kernel, fun D hD r as h hO hB hF hA hH => ?_⟩
  obtain ⟨x, as1, rfl, ⟨i, rfl, h0⟩, y, as2, rfl, ⟨n, rfl, h1⟩, h2⟩ := hA
  have h2 : as2 = [] := h2
  subst h2
  obtain ⟨x0, e0, l0, -⟩ := hB.2 0 _ rfl
  obtain ⟨x1, e1, l1, -⟩ := hB.2 1 _ rfl
  have q0 : i.toInt = x0 := zE_fun h0 (zE_X e0)
  have q1 : n.toInt = x1 := zE_fun h1 (zE_X e1)
  obtain ⟨z, hz, hz0⟩ := hF _ (List.mem_singleton_self _)
  have q2 : z = x0 - x1 + 1 := by
    obtain ⟨u, hu, rfl⟩ := hz
    obtain ⟨a, b, c1, c2, rfl⟩ := zev_cons.mp hu
    obtain ⟨a', b', c3, c4, rfl⟩ := zev_cons.mp c2
    cases c4
    rw [e0] at c1
    rw [e1] at c3
    cases c1
    cases c3
    show 1 + (1 * x0 + (-1 * x1 + 0)) = x0 - x1 + 1
    omega
  have hlt : i.toInt < n.toInt := by omega
  have hge : 0 ≤ i.toInt := by rw [q0]; exact l0
  obtain ⟨d, rfl⟩ : ∃ d, D = d + 1 := ⟨D - 1, by have : 2 ≤ D := hD; omega⟩
  have c1 : mi_cond .lt i 0 = false := by
    rw [← Bool.not_eq_true, zcd_iff]
    show ¬ (i.toInt - (0 : Int32).toInt < 0)
    rw [show (0 : Int32).toInt = 0 from rfl]
    omega
  have c2 : mi_cond .lt i n = true := by
    rw [zcd_iff]
    show i.toInt - n.toInt < 0
    omega
  have inner : mi_T mi_P S d 284 (0, mi_ent 0 [.int i, .int n, mi_fv S], []) h (fun x h' => x = some (.int i) ∧ h' = h) := by
    have hl : mi_ent 0 [.int i, .int n, mi_fv S] = [(0, .int i), (1, .int n), (2, mi_fv S)] := rfl
    rw [hl]
    refine mi_T_st (f' := (1, [(0, .int i), (1, .int n), (2, mi_fv S)], [.int i])) (h1 := h) rfl ?_
    refine mi_T_st (f' := (2, [(0, .int i), (1, .int n), (2, mi_fv S)], [])) (h1 := h) (by
      rw [show mi_at mi_P 284 1 = .ifCond .lt 5 from rfl]
      simp only [mi_step, mi_if, c1]
      rfl) ?_
    refine mi_T_st (f' := (3, [(0, .int i), (1, .int n), (2, mi_fv S)], [.int i])) (h1 := h) rfl ?_
    refine mi_T_st (f' := (4, [(0, .int i), (1, .int n), (2, mi_fv S)], [.int n, .int i])) (h1 := h) rfl ?_
    refine mi_T_st (f' := (10, [(0, .int i), (1, .int n), (2, mi_fv S)], [])) (h1 := h) (by
      rw [show mi_at mi_P 284 4 = .if_icmp .lt 10 from rfl]
      simp only [mi_step, mi_icmp, c2]
      rfl) ?_
    refine mi_T_st (f' := (11, [(0, .int i), (1, .int n), (2, mi_fv S)], [.int i])) (h1 := h) rfl ?_
    exact mi_T_ri (v := i) rfl rfl rfl ⟨rfl, rfl⟩
  have hl : mi_ent 0 [.int i, .int n] = [(0, .int i), (1, .int n)] := rfl
  rw [hl]
  refine mi_T_st (f' := (1, [(0, .int i), (1, .int n)], [.int i])) (h1 := h) rfl ?_
  refine mi_T_st (f' := (2, [(0, .int i), (1, .int n)], [.int n, .int i])) (h1 := h) rfl ?_
  refine mi_T_st (f' := (3, [(0, .int i), (1, .int n)], [mi_fv S, .int n, .int i])) (h1 := h) rfl ?_
  have hcat : (mi_fv S).category = 1 := by
    unfold mi_fv
    split <;> rfl
  refine mi_T_ca (y := 284) (as := [.int i, .int n, mi_fv S]) (rest := []) rfl rfl (by decide) (by
    simp only [List.map_cons, List.map_nil, List.sum_cons, List.sum_nil, hcat]
    show 1 + (1 + (1 + 0)) ≤ (mi_P.get 284).2.2.2.2.1
    decide +kernel) rfl ?_
  refine mi_T_mono inner ?_
  rintro x h' ⟨rfl, rfl⟩
  refine mi_T_st (f' := (5, [(0, .int i), (1, .int n)], [])) (h1 := h') rfl ?_
  refine mi_T_re rfl rfl ⟨⟨zsm_rf, fun k c hk => ?_, _, List.mem_singleton_self _, [], ?_, ?_, ?_, rfl⟩, trivial⟩
  · obtain ⟨mm, g1, g2⟩ := hH k c hk
    exact ⟨mm, g1, g2.2.2.1⟩
  · rw [List.append_nil, List.append_nil]
    exact hB
  · intro f hf; cases hf
  · intro q hq; cases hq
