/-! behindUnit(): a joint is laid on the pile -/
theorem ztailA {S : Nat × (Nat → Int32)} {h0 h : mH} {b n0 : Int} {fs : List (Nat × mF)} {rk slo shi lo hi sv : Int} {sg : zL} (hk : ztk rk slo shi lo hi sg = true) (hrk : zbin rk) (hsv : zbsg sv) (hsg : ∀ r, zE (zuR h ++ ([zI h 471 (zI h 469 6)] ++ r)) sg sv) (hT : zHp [] zT0 h) (hG : zGp 0 b n0 h) (hA : zTA h) (hf : zI h 469 4 = 0) (hrb : zI h 469 35 = b) (hb : b = 0 ∨ b = 1) (hfs : zf13 rk fs)
    (c1 : slo ≤ zI h 471 (zI h 469 6)) (c2 : zI h 471 (zI h 469 6) ≤ shi) (c3 : lo ≤ zI h 492 (zI h 469 38 - 1)) (c4 : zI h 492 (zI h 469 38 - 1) ≤ hi) (hF : zFr b n0 h0 h) (e6 : zI h 469 6 = zI h0 469 6) (e3 : zI h 469 3 = zI h0 469 3) : zKK mi_P S 4 (zRp 0 b n0 h0) fs h := by
  unfold ztk at hk
  simp only [Bool.and_eq_true] at hk
  obtain ⟨hrun, ⟨d1, d2, d3, d4, d5, d6, d7, d8⟩, f1, f2, f3, f4, f5, f6, f7, f8⟩ := hk
  subst hrb
  have hB := zu_B hA hb (Or.inl rfl) hG
  obtain ⟨b1, b2, b3, b4, b5, b6, b7, b8, b9, b10, b11⟩ := zGp_b hb (Or.inl rfl) hG
  obtain ⟨k, N, nb, nn, nr, H, g1, g2, g3, g4, g5, g6, g7, g8, g9, g10, g11, g12, g13, -, g15⟩ := hG
  have g15 := g15 rfl
  obtain ⟨a1, a2, a3, a4, a5, a6⟩ := id hA
  have M : ∀ j : Int, 0 ≤ j → j < zI h 469 38 → zKK mi_P S 4 (zEd ztW h (zuR h ++ ([zI h 471 (zI h 469 6)] ++ [zI h 492 (zI h 469 38 - 1), j, zI h 492 j, j, zI h 493 j])) (zuB ++ ztB slo shi lo hi) (ztP rk sg)) fs h := by
    intro j j0 j1
    have w1 := zT_w hT (j := j) (by omega) (by omega)
    have w2 := zT_s hT (j := j) (by omega) (by omega)
    refine zend (r := zuR h ++ ([zI h 471 (zI h 469 6)] ++ [zI h 492 (zI h 469 38 - 1), j, zI h 492 j, j, zI h 493 j])) hrun (fun c hc => by rw [List.mem_singleton.mp hc]; exact zt_3003) ⟨zf13_to hfs zE_K, ?_, zEn_mk ?_ ?_, zsm_rf⟩
    · exact zads_ok (sp := ztS) (za_H [zI h 492 (zI h 469 38 - 1), j, zI h 492 j, j, zI h 493 j] hT hA hf hb g2) zt_c ⟨⟨zI h 469 38 - 1, zE_v (zE_1 rfl) (by omega), by omega, by omega, zE_X rfl⟩, ⟨j, zE_X rfl, by omega, by omega, zE_X rfl⟩, ⟨j, zE_X rfl, by omega, by omega, zE_X rfl⟩, trivial⟩
    · exact zB_more hB (zB_cons c1 c2 (zB_cons c3 c4 (zB_cons (by omega) (by omega) (zB_cons w1.1 w1.2 (zB_cons (by omega) (by omega) (zB_cons w2.1 w2.2 zB_nil))))))
    · exact zFa_cons (zE_2 rfl rfl) (by omega) (zFa_cons (zE_2 rfl rfl) (by omega) (zFa_cons (zE_2 rfl rfl) (by omega) (zFa_cons (zE_2 rfl rfl) (by omega) (zFa_cons (zE_2 rfl rfl) (by omega) zFa_nil))))
  obtain ⟨l0, i0, rfl, -⟩ := hfs
  have M0 : mi_T mi_P S 4 195 (13, l0, []) h _ := M 0 (by omega) (by omega)
  have M1 : ∀ j : Int, mi_T mi_P S 4 195 (13, l0, []) h (fun _ h' => 0 ≤ j → j < zI h 469 38 → zI h' 492 j = zI h 492 j ∧ zI h' 493 j = zI h 493 j) := by
    intro j
    by_cases hj : 0 ≤ j ∧ j < zI h 469 38
    · have Mj : mi_T mi_P S 4 195 (13, l0, []) h _ := M j hj.1 hj.2
      refine mi_T_mono Mj ?_
      rintro x h' ⟨-, -, po, hpo, s, -, -, pw, -⟩ _ _
      have hpo : po ∈ [zqA rk sg, zqB rk sg] := hpo
      simp only [List.mem_cons, List.not_mem_nil, or_false] at hpo
      rcases hpo with rfl | rfl
      · exact ⟨zPw_ck pw d3 (zE_mono s (zE_X rfl)) (zE_mono s (zE_X rfl)), zPw_ck pw d4 (zE_mono s (zE_X rfl)) (zE_mono s (zE_X rfl))⟩
      · exact ⟨zPw_ck pw f3 (zE_mono s (zE_X rfl)) (zE_mono s (zE_X rfl)), zPw_ck pw f4 (zE_mono s (zE_X rfl)) (zE_mono s (zE_X rfl))⟩
    · exact mi_T_mono M0 (fun _ _ _ a b => absurd ⟨a, b⟩ hj)
  refine mi_T_mono (mi_T_all M0 M1) ?_
  rintro x h' ⟨⟨hsm, hT', po, hpo, s, pB, pF, pw, pr⟩, ej⟩
  have ho := zT0_obj hT
  have k4 : zI h' 469 4 = 0 := (zI_smf (j := 4) hsm ho (by decide +kernel)).trans hf
  have k3 : zI h' 469 3 = zI h 469 3 := zI_smf (j := 3) hsm ho (by decide +kernel)
  have k36 : zI h' 469 36 = zI h 469 36 := zI_smf (j := 36) hsm ho (by decide +kernel)
  have k37 : zI h' 469 37 = zI h 469 37 := zI_smf (j := 37) hsm ho (by decide +kernel)
  have k39 : zI h' 469 39 = zI h 469 39 := zI_smf (j := 39) hsm ho (by decide +kernel)
  have k481 : zI h' 481 = zI h 481 := funext (zI_sm hsm (by decide +kernel))
  have k490 : zI h' 490 = zI h 490 := funext (zI_sm hsm (by decide +kernel))
  have hFr : zFr (zI h 469 35) n0 h0 h' := zFr_tr hF ⟨zsm_tr zsm_rf hsm (zwle_ok (by decide +kernel)), fun j _ _ _ => by rw [k490]⟩
  have gw0 : zI h' 492 0 = 8 := by rw [(ej 0 (by omega) (by omega)).1]; exact g2
  have gpl : zpl (zI h' 492) (zI h' 493) k nb nn nr := zpl_eq (fun j a b => ej j (by omega) (by omega)) g3
  have gp : zI h' 469 38 = 1 + 1 * zI h 469 38 → zI h' 492 (zI h 469 38) = rk → zI h' 493 (zI h 469 38) = sv → zGp 1 (zI h 469 35) n0 h' := by
    intro q1 q2 q3
    rw [g1] at q2 q3
    refine ⟨k + 1, N, nb + 1, nn, nr, H, by omega, gw0, Or.inl ⟨?_, ?_, by rw [show nb + 1 - 1 = nb by omega]; exact gpl⟩, by omega, by omega, by omega, by rw [k490]; exact g7, by omega, by omega, by omega, by rw [k481]; omega, by rw [k481]; omega, g13, fun _ => by rw [k481]; omega, fun q => by omega⟩
    · rw [q2]; exact hrk
    · rw [q3]; exact hsv
  have hpo : po ∈ [zqA rk sg, zqB rk sg] := hpo
  simp only [List.mem_cons, List.not_mem_nil, or_false] at hpo
  have hsg' := zE_mono s (hsg [zI h 492 (zI h 469 38 - 1), 0, zI h 492 0, 0, zI h 493 0])
  have lB : (zuB ++ ztB slo shi lo hi).length = (zuR h ++ ([zI h 471 (zI h 469 6)] ++ [zI h 492 (zI h 469 38 - 1), 0, zI h 492 0, 0, zI h 493 0])).length := rfl
  refine ⟨hT', hFr, Or.inr ⟨k4, ?_⟩⟩
  rcases hpo with rfl | rfl
  · obtain ⟨i, rfl, hi⟩ := zRt_K (c := 1) pr
    have pB : zB [(0, 1600), (0, 1600)] s := zB_tail lB pB
    obtain ⟨x1, s1, rfl, x2, x3, pB⟩ := zB_uncons pB
    obtain ⟨y1, s2, rfl, y2, y3, pB⟩ := zB_uncons pB
    have := zB_unnil pB
    subst this
    have z1 := zPw_ck pw d6 zE_K (zE_X rfl)
    have z2 := zPw_ck pw d7 zE_K (zE_X rfl)
    have z3 := zPw_cb pw d8 zE_K
    have u1 := zFa_hd pF (zE_2 rfl rfl)
    have u2 := zFa_hd (zFa_tl pF) (zE_2 rfl rfl)
    have u3 := zFa_hd (zFa_tl (zFa_tl pF)) (zE_2 rfl rfl)
    refine ⟨Or.inl ⟨⟨z3.1, z3.2, by omega, by omega, by omega, by omega⟩, by omega, by omega⟩, i, rfl, Or.inl ⟨hi, gp (zPw_ck pw d5 zE_K (zE_1 rfl)) (zPw_ck pw d1 (zE_X rfl) zE_K) (zPw_ck pw d2 (zE_X rfl) hsg')⟩⟩
  · obtain ⟨i, rfl, hi⟩ := zRt_K (c := 1) pr
    have z1 := zPw_ck pw f6 zE_K (zE_mono s (zE_X rfl))
    have z2 := zPw_ck pw f7 zE_K (zE_mono s (zE_X rfl))
    have z3 := zPw_ck pw f8 zE_K zE_K
    refine ⟨Or.inr (Or.inl ⟨⟨z3, by omega, by omega, by omega, by omega⟩, by omega, by omega⟩), i, rfl, Or.inl ⟨hi, gp (zPw_ck pw f5 zE_K (zE_mono s (zE_1 rfl))) (zPw_ck pw f1 (zE_mono s (zE_X rfl)) zE_K) (zPw_ck pw f2 (zE_mono s (zE_X rfl)) hsg')⟩⟩
/-! no joint behind: the pile's first, or a bracket -/
def zt0S (top : Int) : zSt0 := [(492, 90, (-1, [(4, 1)]), .inl (zK top))]
def zt0B (wl : Int) : zBd := [(0, 1600), (0, 1600), (0, 1600), (0, 1), (1, 60), (0, 1119), (0, 60), (0, 30), (wl, 7), (-128, 127)]
noncomputable def zt0A (top wl : Int) : zS := ([(195, 13, [(1, .inl (zK 0)), (0, .inr (.inl 469))], [])], zads zaT (zt0S top), zt0B wl, zuF, [])
def zt0W : zW := .leaf (470, [4, 5, 6, 7, 8, 9, 10, 37, 38])
def zq8 : zPo := ([], [], [(469, [(zK 38, .inl (-1, [(4, 1)])), (zK 37, .inl (zX 8)), (zK 4, .inl (zK 0))])], some (.inl (zK 0)))
def zq7A : zPo := ([(0, 1600), (0, 1600)], [(1, [(10, 1), (11, -1)]), (0, [(2, -1), (11, 1)]), (0, [(1, 1), (10, -1)])], [(469, [(zK 38, .inl (-1, [(4, 1)])), (zK 37, .inl (-1, [(8, 1)])), (zK 4, .inl (zK 0)), (zK 8, .inr (.inr (.inr (.inl (1, 5))))), (zK 6, .inl (zX 10)), (zK 7, .inl (zX 11))])], some (.inl (zK 0)))
def zq7B : zPo := ([], [], [(469, [(zK 38, .inl (-1, [(4, 1)])), (zK 37, .inl (-1, [(8, 1)])), (zK 4, .inl (zK 0)), (zK 8, .inl (zK 0)), (zK 6, .inl (zX 2)), (zK 7, .inl (zX 2))])], some (.inl (zK 0)))
def zq7F : zPo := ([], [], [(469, [(zK 38, .inl (-1, [(4, 1)])), (zK 37, .inl (-1, [(8, 1)])), (zK 4, .inr (.inr (.inr (.inl (1, 4)))))])], some (.inl (zK 0)))
theorem zt0_c8 : zadc zaT (zt0S 8) = true := by decide +kernel
theorem zt0_c7 : zadc zaT (zt0S 7) = true := by decide +kernel
theorem zt0_8 : zend? 4 zWq [] 10 (zt0B 0) (zads zaT (zt0S 8)) [(zq8, [])] (zt0A 8 0) = true := by decide +kernel
theorem zt0_7 : zend? 4 zt0W [zc_3011, zc_3003] 10 (zt0B 1) (zads zaT (zt0S 7)) [(zq7A, [.inr (469, zK 6), .inr (469, zK 7)]), (zq7B, []), (zq7F, [])] (zt0A 7 1) = true := by decide +kernel
/-- where the pile's first stands, nothing else does -/
theorem zpl_8 {g s : Int → Int} {k : Nat} {nb nn nr : Int} (hp : zpl g s k nb nn nr) (h : g k = 8) : k = 0 := by
  cases k with
  | zero => rfl
  | succ k =>
    rcases hp with ⟨a, -⟩ | ⟨a, -⟩ | ⟨a, -⟩
    · rw [show ((k + 1 : Nat) : Int) = (k : Int) + 1 by omega] at h
      rcases a with a | a | a | a | a <;> omega
    · rw [show ((k + 1 : Nat) : Int) = (k : Int) + 1 by omega] at h
      omega
    · rw [show ((k + 1 : Nat) : Int) = (k : Int) + 1 by omega] at h
      omega
theorem zpl_7 {g s : Int → Int} {k : Nat} {nb nn nr : Int} (h0 : g 0 = 8) (hp : zpl g s k nb nn nr) (h : g k = 7) : ∃ k', k = k' + 1 ∧ zpl g s k' nb nn (nr - 1) := by
  cases k with
  | zero =>
    have : g 0 = 7 := h
    omega
  | succ k =>
    refine ⟨k, rfl, ?_⟩
    rw [show ((k + 1 : Nat) : Int) = (k : Int) + 1 by omega] at h
    rcases hp with ⟨a, -⟩ | ⟨a, -⟩ | ⟨a, q⟩
    · rcases a with a | a | a | a | a <;> omega
    · omega
    · exact q
/-- what the pile holds is one of these -/
theorem zpl_v {g s : Int → Int} {k : Nat} {nb nn nr : Int} (h0 : g 0 = 8) (hp : zpl g s k nb nn nr) (h : 6 < g k) : g k = 7 ∨ g k = 8 := by
  cases k with
  | zero => exact Or.inr h0
  | succ k =>
    rw [show ((k + 1 : Nat) : Int) = (k : Int) + 1 by omega] at h ⊢
    rcases hp with ⟨a, -⟩ | ⟨a, -⟩ | ⟨a, q⟩
    · rcases a with a | a | a | a | a <;> omega
    · omega
    · exact Or.inl a
/-- behind the pile's first: the rule is read -/
theorem zdone {b n0 : Int} {h0 h h' : mH} {x : Option Value} (hb : b = 0 ∨ b = 1) (hG : zGp 0 b n0 h) (h8 : zI h 492 (zI h 469 38 - 1) = 8) (hT : zHp [] zT0 h) (hF : zFr b n0 h0 h) (e3 : zI h 469 3 = zI h0 469 3) (e6 : zI h 469 6 = zI h0 469 6) (e7 : zI h 469 7 = zI h0 469 7) (e8 : zI h 469 8 = zI h0 469 8) (hsm : zsm zWq h h') (hT' : zHp [] zT0 h') (k4 : zI h' 469 4 = 0) (k38 : zI h' 469 38 = zI h 469 38 - 1) (hx : ∃ i : Int32, x = some (.int i)) : zRp 0 b n0 h0 x h' := by
  have ho := zT0_obj hT
  have k36 : zI h' 469 36 = zI h 469 36 := zI_smf (j := 36) hsm ho (by decide +kernel)
  have k481 : zI h' 481 = zI h 481 := funext (zI_sm hsm (by decide +kernel))
  have k490 : zI h' 490 = zI h 490 := funext (zI_sm hsm (by decide +kernel))
  obtain ⟨k, N, nb, nn, nr, H, g1, g2, g3, g4, g5, g6, g7, g8, g9, g10, g11, g12, g13, -, g15⟩ := hG
  have g15 := g15 rfl
  have pb := zpl_b g3
  rw [show zI h 469 38 - 1 = k by omega] at h8
  have hk := zpl_8 g3 h8
  subst hk
  obtain ⟨i, rfl⟩ := hx
  refine ⟨hT', zFr_tr hF ⟨zsm_tr zsm_rf hsm (zwle_ok (by decide +kernel)), fun j _ _ _ => by rw [k490]⟩, Or.inr ⟨k4, Or.inr (Or.inr ⟨rfl, by omega, (zI_smf (j := 3) hsm ho (by decide +kernel)).trans e3, (zI_smf (j := 6) hsm ho (by decide +kernel)).trans e6, (zI_smf (j := 7) hsm ho (by decide +kernel)).trans e7, (zI_smf (j := 8) hsm ho (by decide +kernel)).trans e8⟩), i, rfl, Or.inr (Or.inr ⟨by omega, ⟨N, H, by omega, by rw [k490]; exact g7, by rw [k481]; omega⟩, by rw [k481]; omega, by rw [k481]; omega⟩)⟩⟩
/-- behind a bracket, with a fault -/
theorem zbrF {b n0 : Int} {h0 h h' : mH} {x : Option Value} (hx : ∃ i : Int32, x = some (.int i)) (hb : b = 0 ∨ b = 1) (hG : zGp 0 b n0 h) (hT : zHp [] zT0 h) (hF : zFr b n0 h0 h) (hsm : zsm zt0W h h') (hT' : zHp [] zT0 h') (k4 : 1 ≤ zI h' 469 4 ∧ zI h' 469 4 ≤ 4) : zRp 0 b n0 h0 x h' := by
  have ho := zT0_obj hT
  have k36 : zI h' 469 36 = zI h 469 36 := zI_smf (j := 36) hsm ho (by decide +kernel)
  have k490 : zI h' 490 = zI h 490 := funext (zI_sm hsm (by decide +kernel))
  have bb := zGp_b hb (Or.inl rfl) hG
  obtain ⟨k, N, nb, nn, nr, H, g1, g2, g3, g4, g5, g6, g7, g8⟩ := hG
  exact ⟨hT', zFr_tr hF ⟨zsm_tr zsm_rf hsm (zwle_ok (by decide +kernel)), fun j _ _ _ => by rw [k490]⟩, Or.inl ⟨hx, k4.1, k4.2, N, H, by rw [k36]; exact g6, by rw [k490]; exact g7, by rw [k36]; exact bb.2.2.2.1⟩⟩
/-- behind a bracket that is closed -/
theorem zbrG {b n0 : Int} {h h' : mH} (hb : b = 0 ∨ b = 1) (hG : zGp 0 b n0 h) (h7 : zI h 492 (zI h 469 38 - 1) = 7) (hT : zHp [] zT0 h) (hsm : zsm zt0W h h') (k38 : zI h' 469 38 = zI h 469 38 - 1) (k37 : zI h' 469 37 = zI h 469 37 - 1) : zGp 0 b n0 h' := by
  have ho := zT0_obj hT
  have k36 : zI h' 469 36 = zI h 469 36 := zI_smf (j := 36) hsm ho (by decide +kernel)
  have k39 : zI h' 469 39 = zI h 469 39 := zI_smf (j := 39) hsm ho (by decide +kernel)
  have k481 : zI h' 481 = zI h 481 := funext (zI_sm hsm (by decide +kernel))
  have k490 : zI h' 490 = zI h 490 := funext (zI_sm hsm (by decide +kernel))
  have k492 : zI h' 492 = zI h 492 := funext (zI_sm hsm (by decide +kernel))
  have k493 : zI h' 493 = zI h 493 := funext (zI_sm hsm (by decide +kernel))
  obtain ⟨k, N, nb, nn, nr, H, g1, g2, g3, g4, g5, g6, g7, g8, g9, g10, g11, g12, g13, -, g15⟩ := hG
  have g15 := g15 rfl
  rw [show zI h 469 38 - 1 = k by omega] at h7
  obtain ⟨k', rfl, hp⟩ := zpl_7 g2 g3 h7
  exact ⟨k', N, nb, nn, nr - 1, H, by omega, by rw [k492]; exact g2, by rw [k492, k493]; exact hp, by omega, by omega, by omega, by rw [k490]; exact g7, by omega, by omega, by omega, by rw [k481]; omega, by rw [k481]; omega, g13, fun q => by omega, fun _ => by rw [k481]; omega⟩
theorem ztail0 {S : Nat × (Nat → Int32)} {h0 h : mH} {b n0 : Int} {fs : List (Nat × mF)} (hT : zHp [] zT0 h) (hG : zGp 0 b n0 h) (hA : zTA h) (hf : zI h 469 4 = 0) (hrb : zI h 469 35 = b) (hb : b = 0 ∨ b = 1) (hfs : zf13 0 fs) (h6 : 6 < zI h 492 (zI h 469 38 - 1)) (hF : zFr b n0 h0 h) (e6 : zI h 469 6 = zI h0 469 6) (e3 : zI h 469 3 = zI h0 469 3) (e7 : zI h 469 7 = zI h0 469 7) (e8 : zI h 469 8 = zI h0 469 8) : zKK mi_P S 4 (zRp 0 b n0 h0) fs h := by
  subst hrb
  have hB := zu_B hA hb (Or.inl rfl) hG
  obtain ⟨b1, b2, b3, b4, b5, b6, b7, b8, b9, b10, b11⟩ := zGp_b hb (Or.inl rfl) hG
  have hG0 := hG
  obtain ⟨k, N, nb, nn, nr, H, g1, g2, g3, g4, g5, g6, g7, g8, g9, g10, g11, g12, g13, -, g15⟩ := hG
  obtain ⟨a1, a2, a3, a4, a5, a6⟩ := id hA
  have tb := zT_t hT (j := zI h 469 6) (by omega) (by omega)
  have ei : zI h 469 38 - 1 = k := by omega
  have ho := zT0_obj hT
  have hv := zpl_v g2 g3 (by rw [← ei]; exact h6)
  have hBB : ∀ wl, wl ≤ zI h 469 37 → zB (zt0B wl) (zuR h ++ ([zI h 471 (zI h 469 6)] ++ [])) := fun wl hwl => zB_cons (by omega) (by omega) (zB_cons (by omega) (by omega) (zB_cons (by omega) (by omega) (zB_cons (by omega) (by omega) (zB_cons (by omega) (by omega) (zB_cons (by omega) (by omega) (zB_cons (by omega) (by omega) (zB_cons (by omega) (by omega) (zB_cons (by omega) (by omega) (zB_cons tb.1 tb.2 zB_nil)))))))))
  have hR : ∀ (W : zW) (top wl : Int), zadc zaT (zt0S top) = true → zI h 492 k = top → wl ≤ zI h 469 37 → zRS (fun k => zsm W h k) (zuR h ++ ([zI h 471 (zI h 469 6)] ++ [])) (zt0A top wl) fs h := by
    intro W top wl hc ht hwl
    refine ⟨zf13_to hfs zE_K, ?_, zEn_mk (hBB wl hwl) (zu_F _ hA), zsm_rf⟩
    exact zads_ok (sp := zt0S top) (za_H [] hT hA hf hb g2) hc ⟨⟨zI h 469 38 - 1, zE_v (zE_1 rfl) (by omega), by omega, by omega, by rw [ei, ht]; exact zE_K⟩, trivial⟩
  obtain ⟨l0, i0, hfs0, -⟩ := id hfs
  subst hfs0
  rcases hv with hv | hv
  · obtain ⟨k', hk', hp⟩ := zpl_7 g2 g3 hv
    have pb := zpl_b hp
    have M7 : zKK mi_P S 4 (zEd zt0W h (zuR h ++ ([zI h 471 (zI h 469 6)] ++ [])) (zt0B 1) [(zq7A, [.inr (469, zK 6), .inr (469, zK 7)]), (zq7B, []), (zq7F, [])]) [(195, (13, l0, []))] h := zend (r := zuR h ++ ([zI h 471 (zI h 469 6)] ++ [])) (cts := [zc_3011, zc_3003]) (pre := zads zaT (zt0S 7)) (s := zt0A 7 1) zt0_7 (fun c hc => by
      simp only [List.mem_cons, List.not_mem_nil, or_false] at hc
      rcases hc with rfl | rfl
      · exact zt_3011
      · exact zt_3003) (hR zt0W 7 1 zt0_c7 hv (by omega))
    have Mm : mi_T mi_P S 4 195 (13, l0, []) h _ := M7
    refine mi_T_mono Mm ?_
    rintro x h' ⟨hsm, hT', po, hpo, s, pB, pF, pw, pr⟩
    have k3 : zI h' 469 3 = zI h 469 3 := zI_smf (j := 3) hsm ho (by decide +kernel)
    have k490 : zI h' 490 = zI h 490 := funext (zI_sm hsm (by decide +kernel))
    have hpo : po ∈ [zq7A, zq7B, zq7F] := hpo
    simp only [List.mem_cons, List.not_mem_nil, or_false] at hpo
    rcases hpo with rfl | rfl | rfl
    · obtain ⟨i, rfl, hi⟩ := zRt_K (c := 0) pr
      have pB : zB [(0, 1600), (0, 1600)] s := zB_tail rfl pB
      obtain ⟨x1, s1, rfl, x2, x3, pB⟩ := zB_uncons pB
      obtain ⟨y1, s2, rfl, y2, y3, pB⟩ := zB_uncons pB
      have := zB_unnil pB
      subst this
      have z1 := zPw_ck pw (k := 469) (e := zK 6) (d := zX 10) (by decide +kernel) zE_K (zE_X rfl)
      have z2 := zPw_ck pw (k := 469) (e := zK 7) (d := zX 11) (by decide +kernel) zE_K (zE_X rfl)
      have z3 := zPw_cb pw (k := 469) (e := zK 8) (lo := 1) (hi := 5) (by decide +kernel) zE_K
      have u1 := zFa_hd pF (zE_2 rfl rfl)
      have u2 := zFa_hd (zFa_tl pF) (zE_2 rfl rfl)
      have u3 := zFa_hd (zFa_tl (zFa_tl pF)) (zE_2 rfl rfl)
      have k38 := zPw_ck pw (k := 469) (e := zK 38) (d := (-1, [(4, 1)])) (by decide +kernel) zE_K (zE_1 rfl)
      have k37 := zPw_ck pw (k := 469) (e := zK 37) (d := (-1, [(8, 1)])) (by decide +kernel) zE_K (zE_1 rfl)
      have k4 := zPw_ck pw (k := 469) (e := zK 4) (d := zK 0) (by decide +kernel) zE_K zE_K
      exact ⟨hT', zFr_tr hF ⟨zsm_tr zsm_rf hsm (zwle_ok (by decide +kernel)), fun j _ _ _ => by rw [k490]⟩, Or.inr ⟨k4, Or.inl ⟨⟨z3.1, z3.2, by omega, by omega, by omega, by omega⟩, by omega, by omega⟩, i, rfl, Or.inr (Or.inl ⟨hi, zbrG hb hG0 (by rw [ei]; exact hv) hT hsm (by omega) (by omega)⟩)⟩⟩
    · obtain ⟨i, rfl, hi⟩ := zRt_K (c := 0) pr
      have z1 := zPw_ck pw (k := 469) (e := zK 6) (d := zX 2) (by decide +kernel) zE_K (zE_mono s (zE_X rfl))
      have z2 := zPw_ck pw (k := 469) (e := zK 7) (d := zX 2) (by decide +kernel) zE_K (zE_mono s (zE_X rfl))
      have z3 := zPw_ck pw (k := 469) (e := zK 8) (d := zK 0) (by decide +kernel) zE_K zE_K
      have k38 := zPw_ck pw (k := 469) (e := zK 38) (d := (-1, [(4, 1)])) (by decide +kernel) zE_K (zE_mono s (zE_1 rfl))
      have k37 := zPw_ck pw (k := 469) (e := zK 37) (d := (-1, [(8, 1)])) (by decide +kernel) zE_K (zE_mono s (zE_1 rfl))
      have k4 := zPw_ck pw (k := 469) (e := zK 4) (d := zK 0) (by decide +kernel) zE_K zE_K
      exact ⟨hT', zFr_tr hF ⟨zsm_tr zsm_rf hsm (zwle_ok (by decide +kernel)), fun j _ _ _ => by rw [k490]⟩, Or.inr ⟨k4, Or.inr (Or.inl ⟨⟨z3, by omega, by omega, by omega, by omega⟩, by omega, by omega⟩), i, rfl, Or.inr (Or.inl ⟨hi, zbrG hb hG0 (by rw [ei]; exact hv) hT hsm (by omega) (by omega)⟩)⟩⟩
    · have k4 := zPw_cb pw (k := 469) (e := zK 4) (lo := 1) (hi := 4) (by decide +kernel) zE_K
      obtain ⟨i, rfl, hi⟩ := zRt_K (c := 0) pr
      exact zbrF ⟨i, rfl⟩ hb hG0 hT hF hsm hT' k4
  · have M8 : zKK mi_P S 4 (zEd zWq h (zuR h ++ ([zI h 471 (zI h 469 6)] ++ [])) (zt0B 0) [(zq8, [])]) [(195, (13, l0, []))] h := zend (r := zuR h ++ ([zI h 471 (zI h 469 6)] ++ [])) (cts := []) (pre := zads zaT (zt0S 8)) (s := zt0A 8 0) zt0_8 (fun c hc => by cases hc) (hR zWq 8 0 zt0_c8 hv (by omega))
    have Mm : mi_T mi_P S 4 195 (13, l0, []) h _ := M8
    refine mi_T_mono Mm ?_
    rintro x h' ⟨hsm, hT', po, hpo, s, pB, pF, pw, pr⟩
    have hpo : po = zq8 := List.mem_singleton.mp hpo
    subst hpo
    obtain ⟨i, rfl, hi⟩ := zRt_K (c := 0) pr
    have k38 := zPw_ck pw (k := 469) (e := zK 38) (d := (-1, [(4, 1)])) (by decide +kernel) zE_K (zE_mono s (zE_1 rfl))
    have k4 := zPw_ck pw (k := 469) (e := zK 4) (d := zK 0) (by decide +kernel) zE_K zE_K
    exact zdone hb hG0 (by rw [ei]; exact hv) hT hF e3 e6 e7 e8 hsm hT' k4 (by omega) ⟨i, rfl⟩
