/-! readRule(r), by hand -/
def zWs : zW := .branch 486 (.branch 481 (.leaf (470, [4, 5, 6, 7, 8, 9, 10, 36, 37, 38, 39])) (.leaf (482, [0]))) (.branch 490 (.branch 487 (.leaf (487, [0])) (.leaf (488, [0]))) (.branch 492 (.branch 491 (.leaf (491, [0])) (.leaf (492, [0]))) (.branch 493 (.leaf (493, [0])) (.leaf (494, [0])))))
/-- 0 rb, 1 codes, 2 the rule, 3 another place, 4 what it holds -/
def zrS1 : zSt0 := [(469, 73, zK 35, .inl (zX 0)), (469, 73, zK 36, .inl (zX 1)), (486, 8, zX 3, .inl (zX 4))]
def zrB : zBd := [(0, 1), (0, 1120), (0, 3), (0, 7), (0, 1120)]
def zrL : List (Nat × zV) := [(1, .inl (zX 2)), (0, .inr (.inl 469))]
noncomputable def zrE (f : zL) : zS := ([(188, 0, [(0, .inr (.inl 469)), (1, .inl (zX 2))], [])], zads zT0 zrS1, zrB, [f], [])
noncomputable def zrC : zS := ([(188, 15, zrL, [.inr (.inl 469)])], zads zT0 [(469, 73, zK 35, .inl (zX 0)), (469, 73, zK 36, .inl (zX 1)), (469, 73, zK 39, .inl (zK 0)), (486, 8, zX 3, .inl (zX 4)), (486, 8, (0, [(0, 4), (2, 1)]), .inl (zX 1))], zrB, [], [])
def zrW1 : zW := .branch 486 (.leaf (470, [39])) (.leaf (487, [0]))
def zrW2 : zW := .leaf (488, [0])
def zi5 : List zL := [zX 0, zX 1, zX 2, zX 3, zX 4]
/-- the other place lies ahead, or behind -/
def zrf1 : zL := (1, [(0, -4), (2, -1), (3, 1)])
def zrf2 : zL := (1, [(0, 4), (2, 1), (3, -1)])
noncomputable def zrR (W : zW) (F : List zTg) (s : zS) : Bool := zrun (zstep mi_P 7 W false [] [] znC) (fun s => F.any (zstg s) || znF s) 500 [s]
theorem zr_1 : (zrR zrW1 [(zrC, zi5, [])] (zrE zrf1) && zrR zrW1 [(zrC, zi5, [])] (zrE zrf2)) = true := by decide +kernel
theorem zr_c1 : zadc zT0 zrS1 = true := by decide +kernel
theorem zr_k1 : (zchk zrC.2.1 486 (zX 3) (zX 4) && (zchk zrC.2.1 486 (0, [(0, 4), (2, 1)]) (zX 1) && zchk zrC.2.1 469 (zK 39) (zK 0))) = true := by decide +kernel
theorem zr_t1 : ztle (zrB, [], []) [] zrC.2.1 zT0 = true := by decide +kernel
theorem zr_h : zhcb mi_P 7 189 [.inr (.inl 469)] [] zrC.2.1 = true := by decide +kernel
def zrS2 : zSt0 := [(469, 73, zK 35, .inl (zX 0)), (469, 73, zK 36, .inl (zX 1)), (487, 8, zX 3, .inl (zX 4))]
noncomputable def zrX (f : zL) : zS := ([(188, 16, zrL, [])], zads zT0 zrS2, zrB, [f], [])
def zrP : List (zPo × List (Nat ⊕ (Nat × zL))) := [(([], [], [(487, [(zX 3, .inl (zX 4)), ((0, [(0, 4), (2, 1)]), .inl (zX 1))])], none), [])]
theorem zr_c2 : zadc zT0 zrS2 = true := by decide +kernel
theorem zr_2 : (zend? 7 zrW2 [] 5 zrB (zads zT0 zrS2) zrP (zrX zrf1) && zend? 7 zrW2 [] 5 zrB (zads zT0 zrS2) zrP (zrX zrf2)) = true := by decide +kernel
theorem zr_p : (zpwk [(487, [(zX 3, .inl (zX 4)), ((0, [(0, 4), (2, 1)]), .inl (zX 1))])] 487 (zX 3) (zX 4) && zpwk [(487, [(zX 3, .inl (zX 4)), ((0, [(0, 4), (2, 1)]), .inl (zX 1))])] 487 (0, [(0, 4), (2, 1)]) (zX 1)) = true := by decide +kernel
theorem zT_f {h : mH} (hT : zHp [] zT0 h) {j : Int} (h0 : 0 ≤ j) (h1 : j < 8) : 0 ≤ zI h 486 j ∧ zI h 486 j ≤ 1120 := zT_b hT (n := 8) (by decide +kernel) (by decide +kernel) h0 h1 (by decide +kernel)
theorem zT_g {h : mH} (hT : zHp [] zT0 h) {j : Int} (h0 : 0 ≤ j) (h1 : j < 8) : 0 ≤ zI h 487 j ∧ zI h 487 j ≤ 1120 := zT_b hT (n := 8) (by decide +kernel) (by decide +kernel) h0 h1 (by decide +kernel)
theorem zT_k {h : mH} (hT : zHp [] zT0 h) : 0 ≤ zI h 469 36 ∧ zI h 469 36 ≤ 1120 := zI_cb hT (k := 469) (e := zK 36) (by decide +kernel) zE_K (by omega) (by rw [show zlen zT0 469 = 73 by decide +kernel]; omega)
/-- behind readRule -/
def zRr (b s : Int) (h h' : mH) : Prop := zHp [] zT0 h' ∧ zsm zWs h h' ∧ (∀ j : Int, 0 ≤ j → j < 1120 → (j < zI h 469 36 ∨ 560 * b + 560 ≤ j) → zI h' 490 j = zI h 490 j) ∧ (∃ (N : Nat) (H : Int), zI h' 469 36 = zI h 469 36 + N ∧ zhg (zI h' 490) (zI h 469 36) N H ∧ zI h' 469 36 ≤ 560 * b + 547) ∧
  zI h' 486 (4 * b + s) = zI h 469 36 ∧ zI h' 487 (4 * b + s) = zI h' 469 36 ∧ ((1 ≤ zI h' 469 4 ∧ zI h' 469 4 ≤ 4) ∨ (zI h' 469 4 = 0 ∧ (zTA h' ∨ zTB h') ∧ zI h 469 6 < zI h' 469 6 ∧ zI h' 469 3 = zI h 469 3 ∧ zI h' 469 36 ≤ 560 * b + 9 * zI h' 481 b ∧ 0 ≤ zI h' 481 b ∧ zI h' 481 b ≤ 60))
theorem zrule {S : Nat × (Nat → Int32)} {h : mH} {b : Int} {s : Int32} (hT : zHp [] zT0 h) (hA : zTA h ∨ zTB h) (hf : zI h 469 4 = 0) (hrb : zI h 469 35 = b) (hb : b = 0 ∨ b = 1) (s0 : 0 ≤ s.toInt) (s1 : s.toInt ≤ 3) (u0 : 0 ≤ zI h 481 b) (u1 : zI h 481 b ≤ 60) (c0 : 560 * b ≤ zI h 469 36) (c1 : zI h 469 36 ≤ 560 * b + 9 * zI h 481 b) : mi_T mi_P S 7 188 (0, mi_ent 0 [.ref 469, .int s], []) h (fun x h' => (x = none ∧ zRr b s.toInt h h') ∧ ∀ j : Int, 0 ≤ j → j < 8 → j ≠ 4 * b + s.toInt → zI h' 486 j = zI h 486 j ∧ zI h' 487 j = zI h 487 j) := by
  subst hrb
  have ho := zT0_obj hT
  have kb := zT_k hT
  have M : ∀ j : Int, 0 ≤ j → j < 8 → j ≠ 4 * zI h 469 35 + s.toInt → mi_T mi_P S 7 188 (0, mi_ent 0 [.ref 469, .int s], []) h (fun x h' => (x = none ∧ zRr (zI h 469 35) s.toInt h h') ∧ (zI h' 486 j = zI h 486 j ∧ zI h' 487 j = zI h 487 j)) := by
    intro j j0 j1 j2
    have fb := zT_f hT (j := j) (by omega) (by omega)
    have hB : zB zrB [zI h 469 35, zI h 469 36, s.toInt, j, zI h 486 j] := zB_cons (by omega) (by omega) (zB_cons kb.1 kb.2 (zB_cons s0 s1 (zB_cons (by omega) (by omega) (zB_cons fb.1 fb.2 zB_nil))))
    have hH : zHp [zI h 469 35, zI h 469 36, s.toInt, j, zI h 486 j] (zads zT0 zrS1) h := zads_ok (sp := zrS1) (zHp_mono _ hT) zr_c1 ⟨⟨35, zE_K, by omega, by omega, zE_X rfl⟩, ⟨36, zE_K, by omega, by omega, zE_X rfl⟩, ⟨j, zE_X rfl, by omega, by omega, zE_X rfl⟩, trivial⟩
    have hSt : zSt [zI h 469 35, zI h 469 36, s.toInt, j, zI h 486 j] [.inr (.inl 469), .inl (zX 2)] [.ref 469, .int s] := zSt_k ⟨rfl, rfl⟩ (zSt_k (zR_mkI (zE_X rfl)) rfl)
    have ck := zr_k1
    simp only [Bool.and_eq_true] at ck
    have cut : ∀ F ∈ ([(zrC, zi5, [])] : List zTg), ∀ r1 rc fs h1, rc.length = F.2.1.length + F.2.2.length → (∀ (k : Nat) (e : zL), F.2.1[k]? = some e → ∃ x, rc[k]? = some x ∧ zE ([zI h 469 35, zI h 469 36, s.toInt, j, zI h 486 j] ++ r1) e x) → zRS (fun k => zsm zrW1 h k) rc F.1 fs h1 → zKK mi_P S 7 (fun x h' => (x = none ∧ zRr (zI h 469 35) s.toInt h h') ∧ (zI h' 486 j = zI h 486 j ∧ zI h' 487 j = zI h 487 j)) fs h1 := by
      intro F hFF r1 rc fs1 h1 q1 q2 q3
      have hFF := List.mem_singleton.mp hFF
      subst hFF
      have e := zGe_eq0 (l := [zI h 469 35, zI h 469 36, s.toInt, j, zI h 486 j]) q1 q2 (zGe_cons (zE_X rfl) (zGe_cons (zE_X rfl) (zGe_cons (zE_X rfl) (zGe_cons (zE_X rfl) (zGe_cons (zE_X rfl) zGe_nil)))))
      subst e
      obtain ⟨k1, k2, k3, k4⟩ := q3
      have hT1 : zHp [] zT0 h1 := zHp_T k3 zr_t1 k2
      have ho1 := zobj_sm k4 ho
      have v486j : zI h1 486 j = zI h 486 j := zI_ck k2 ck.1 (zE_X rfl) (zE_X rfl)
      have v486 : zI h1 486 (4 * zI h 469 35 + s.toInt) = zI h 469 36 := zI_ck k2 ck.2.1 (zE_v (zE_2 rfl rfl) (by omega)) (zE_X rfl)
      have v39 : zI h1 469 39 = 0 := zI_ck k2 ck.2.2 zE_K zE_K
      have t1 := zTA_sm (by decide +kernel) ho k4
      have e4 : zI h1 469 4 = 0 := (zI_smf (j := 4) k4 ho (by decide +kernel)).trans hf
      have e35 : zI h1 469 35 = zI h 469 35 := zI_smf (j := 35) k4 ho (by decide +kernel)
      have e36 : zI h1 469 36 = zI h 469 36 := zI_smf (j := 36) k4 ho (by decide +kernel)
      have e481 : zI h1 481 = zI h 481 := funext (zI_sm k4 (by decide +kernel))
      have e487 : zI h1 487 = zI h 487 := funext (zI_sm k4 (by decide +kernel))
      have e490 : zI h1 490 = zI h 490 := funext (zI_sm k4 (by decide +kernel))
      refine zcallR (R := fun x h' => x = none ∧ zRe (zI h 469 35) (zI h1 469 36) h1 h') (y := 189) (by decide +kernel) zr_h ⟨k1, k2, k3, k4⟩ ?_ ?_
      · intro xs hxs
        have hxs : zSt [zI h 469 35, zI h 469 36, s.toInt, j, zI h 486 j] [.inr (.inl 469)] xs := hxs
        obtain ⟨x, st', rfl, g1, g2⟩ := zSt_c hxs
        have g2 : st' = [] := g2
        subst g2
        have := zR_ref g1
        subst this
        exact ze hT1 (hA.imp (zTA_eq t1) (zTB_eq t1)) e4 e35 hb v39 (by rw [e481]; exact u0) (by rw [e481]; exact u1) (by rw [e36]; exact c0) (by rw [e36, e481]; exact c1)
      · rintro x h2 l0 rest hl hrest ⟨rfl, hT2, hF2, hN, hend⟩
        have hrest : rest = [] := hrest
        subst hrest
        have gb := zT_g hT2 (j := j) (by omega) (by omega)
        have kb2 := zT_k hT2
        have e35' : zI h2 469 35 = zI h 469 35 := (zI_smf (j := 35) hF2.1 ho1 (by decide +kernel)).trans e35
        have e486' : zI h2 486 = zI h1 486 := funext (zI_sm hF2.1 (by decide +kernel))
        have e487' : zI h2 487 = zI h1 487 := funext (zI_sm hF2.1 (by decide +kernel))
        have ho2 := zT0_obj hT2
        have hB2 : zB zrB [zI h2 469 35, zI h2 469 36, s.toInt, j, zI h2 487 j] := zB_cons (by omega) (by omega) (zB_cons kb2.1 kb2.2 (zB_cons s0 s1 (zB_cons (by omega) (by omega) (zB_cons gb.1 gb.2 zB_nil))))
        have hH2 : zHp [zI h2 469 35, zI h2 469 36, s.toInt, j, zI h2 487 j] (zads zT0 zrS2) h2 := zads_ok (sp := zrS2) (zHp_mono _ hT2) zr_c2 ⟨⟨35, zE_K, by omega, by omega, zE_X rfl⟩, ⟨36, zE_K, by omega, by omega, zE_X rfl⟩, ⟨j, zE_X rfl, by omega, by omega, zE_X rfl⟩, trivial⟩
        have hL2 : zLo [zI h2 469 35, zI h2 469 36, s.toInt, j, zI h2 487 j] zrL l0 := by
          intro q hq
          obtain ⟨y, y1, y2⟩ := hl q hq
          refine ⟨y, y1, ?_⟩
          have hq : q ∈ [((1 : Nat), (Sum.inl (zX 2) : zV)), (0, .inr (.inl 469))] := hq
          simp only [List.mem_cons, List.not_mem_nil, or_false] at hq
          rcases hq with rfl | rfl
          · obtain ⟨i, i1, i2⟩ := y2
            exact ⟨i, i1, zE_v (zE_X rfl) (zE_fun i2 (zE_X rfl))⟩
          · exact y2
        have fin : ∀ f, zend? 7 zrW2 [] 5 zrB (zads zT0 zrS2) zrP (zrX f) = true → zFa [f] [zI h2 469 35, zI h2 469 36, s.toInt, j, zI h2 487 j] → zKK mi_P S 7 (fun x h' => (x = none ∧ zRr (zI h 469 35) s.toInt h h') ∧ (zI h' 486 j = zI h 486 j ∧ zI h' 487 j = zI h 487 j)) [(188, (16, l0, []))] h2 := by
          intro f hrun hFf
          have hR : zRS (fun k => zsm zrW2 h2 k) [zI h2 469 35, zI h2 469 36, s.toInt, j, zI h2 487 j] (zrX f) [(188, (16, l0, []))] h2 := ⟨⟨l0, [], [], rfl, hL2, rfl, rfl⟩, hH2, zEn_mk hB2 hFf, zsm_rf⟩
          have M2 : zKK mi_P S 7 (zEd zrW2 h2 [zI h2 469 35, zI h2 469 36, s.toInt, j, zI h2 487 j] zrB zrP) [(188, (16, l0, []))] h2 := zend (r := [zI h2 469 35, zI h2 469 36, s.toInt, j, zI h2 487 j]) (cts := []) (pre := zads zT0 zrS2) (s := zrX f) hrun (fun c hc => by cases hc) hR
          refine zKK_mono ?_ M2
          rintro x h3 ⟨hsm, hT3, po, hpo, s', pB, pF, pw, pr⟩
          have hpo : po = ([], [], [(487, [(zX 3, .inl (zX 4)), ((0, [(0, 4), (2, 1)]), .inl (zX 1))])], none) := List.mem_singleton.mp hpo
          subst hpo
          have pk := zr_p
          rw [Bool.and_eq_true] at pk
          have w1 : zI h3 487 j = zI h2 487 j := zPw_ck pw pk.1 (zE_mono s' (zE_X rfl)) (zE_mono s' (zE_X rfl))
          have w2 : zI h3 487 (4 * zI h 469 35 + s.toInt) = zI h2 469 36 := zPw_ck pw pk.2 (zE_mono s' (zE_v (zE_2 rfl rfl) (by omega))) (zE_mono s' (zE_X rfl))
          have x : ∀ q : Nat, zI h3 469 q = zI h2 469 q := fun q => zI_smf hsm ho2 (by unfold zw zrW2; rw [show (Lean.RArray.leaf ((488, [0]) : Nat × List Nat)).get 469 = (488, [0]) from rfl]; rfl)
          have y486 : zI h3 486 = zI h2 486 := funext (zI_sm hsm (by decide +kernel))
          have y490 : zI h3 490 = zI h2 490 := funext (zI_sm hsm (by decide +kernel))
          have y481 : zI h3 481 = zI h2 481 := funext (zI_sm hsm (by decide +kernel))
          have x3 : zI h3 469 3 = zI h2 469 3 := x 3
          have x4 : zI h3 469 4 = zI h2 469 4 := x 4
          have x6 : zI h3 469 6 = zI h2 469 6 := x 6
          have x7 : zI h3 469 7 = zI h2 469 7 := x 7
          have x8 : zI h3 469 8 = zI h2 469 8 := x 8
          have x36 : zI h3 469 36 = zI h2 469 36 := x 36
          obtain ⟨N, H, n1, n2, n3⟩ := hN
          rw [e36] at n1 n2
          refine ⟨⟨pr, hT3, ?_, ?_, ⟨N, H, by rw [x36]; exact n1, by rw [y490]; exact n2, by rw [x36]; exact n3⟩, ?_, ?_, ?_⟩, ?_, ?_⟩
          · exact zsm_tr (zsm_tr (zsm_tr (W := zWs) zsm_rf k4 (zwle_ok (by decide +kernel))) hF2.1 (zwle_ok (by decide +kernel))) hsm (zwle_ok (by decide +kernel))
          · intro i i0 i1 i2
            rw [y490, hF2.2 i i0 i1 (by omega), e490]
          · rw [y486, e486', v486]
          · rw [w2, x36]
          · rw [x4]
            rcases hend with q | ⟨q1, q2, q3, q4, q5, q6, q7⟩
            · exact Or.inl q
            · refine Or.inr ⟨q1, q2.imp (zTA_eq ⟨x3, x6, x7, x8⟩) (zTB_eq ⟨x3, x6, x7, x8⟩), ?_, ?_, ?_, ?_, ?_⟩
              · rw [x6, ← t1.2.1]; exact q3
              · rw [x3, q4, t1.1]
              · rw [x36, y481]; exact q5
              · rw [y481]; exact q6
              · rw [y481]; exact q7
          · rw [y486, e486', v486j]
          · rw [w1, e487', e487]
        have r2 := zr_2
        rw [Bool.and_eq_true] at r2
        show zKK mi_P S 7 _ [(188, (16, l0, []))] h2
        rcases (by omega : j < 4 * zI h2 469 35 + s.toInt ∨ 4 * zI h2 469 35 + s.toInt < j) with q | q
        · exact fin zrf1 r2.1 (zFa_cons (zE_3 rfl rfl rfl) (by omega) zFa_nil)
        · exact fin zrf2 r2.2 (zFa_cons (zE_3 rfl rfl rfl) (by omega) zFa_nil)
    have r1 := zr_1
    rw [Bool.and_eq_true] at r1
    have hR : ∀ f, zFa [f] [zI h 469 35, zI h 469 36, s.toInt, j, zI h 486 j] → zRS (fun k => zsm zrW1 h k) [zI h 469 35, zI h 469 36, s.toInt, j, zI h 486 j] (zrE f) [(188, (0, mi_ent 0 [.ref 469, .int s], []))] h := fun f hFf => ⟨⟨_, _, [], rfl, zent_ok 0 hSt, rfl, rfl⟩, hH, zEn_mk hB hFf, zsm_rf⟩
    rcases (by omega : j < 4 * zI h 469 35 + s.toInt ∨ 4 * zI h 469 35 + s.toInt < j) with q | q
    · have main := zseg (S := S) (tg := [(zrC, zi5, [])]) (fin := znF) (fun h1 h2 q z => zsm_tr q z (fun _ _ z => z)) znC_ok r1.1 (hR zrf1 (zFa_cons (zE_3 rfl rfl rfl) (by omega) zFa_nil)) cut (fun s hs => by cases hs)
      exact main
    · have main := zseg (S := S) (tg := [(zrC, zi5, [])]) (fin := znF) (fun h1 h2 q z => zsm_tr q z (fun _ _ z => z)) znC_ok r1.2 (hR zrf2 (zFa_cons (zE_3 rfl rfl rfl) (by omega) zFa_nil)) cut (fun s hs => by cases hs)
      exact main
  -- any other place will do for what isn't told by places
  obtain ⟨j, j0, j1, j2⟩ : ∃ j : Int, 0 ≤ j ∧ j < 8 ∧ j ≠ 4 * zI h 469 35 + s.toInt := by
    rcases (by omega : 4 * zI h 469 35 + s.toInt = 0 ∨ 4 * zI h 469 35 + s.toInt ≠ 0) with q | q
    · exact ⟨1, by omega, by omega, by omega⟩
    · exact ⟨0, by omega, by omega, fun z => q z.symm⟩
  have M0 := mi_T_mono (M j j0 j1 j2) (fun x h' q => q.1)
  refine mi_T_mono (mi_T_all (Qi := fun j _ h' => 0 ≤ j → j < 8 → j ≠ 4 * zI h 469 35 + s.toInt → zI h' 486 j = zI h 486 j ∧ zI h' 487 j = zI h 487 j) M0 ?_) (fun x h' q => q)
  intro i
  by_cases hi : 0 ≤ i ∧ i < 8 ∧ i ≠ 4 * zI h 469 35 + s.toInt
  · exact mi_T_mono (M i hi.1 hi.2.1 hi.2.2) (fun x h' q _ _ _ => q.2)
  · exact mi_T_mono M0 (fun x h' q a c d => absurd ⟨a, c, d⟩ hi)
