/-! readSort(), by hand -/
def zsS0 : zSt0 := [(469, 73, zK 35, .inl (zX 3)), (479, 2, zX 3, .inl (zX 4)), (469, 73, zK 8, .inr (.inr (.inr (.inl (1, 5))))), (469, 73, zK 6, .inl (zX 0)), (469, 73, zK 7, .inl (zX 1)), (469, 73, zK 3, .inl (zX 2)), (469, 73, zK 4, .inl (zK 0))]
noncomputable def zsT0 : zT := zads zT0 zsS0
def zsB : zBd := [(0, 1600), (0, 1600), (0, 1600), (0, 1), (0, 3)]
def zsL : List (Nat × zV) := [(1, .inl (zX 4)), (0, .inr (.inl 469))]
noncomputable def zsE : zS := ([(184, 0, [(0, .inr (.inl 469))], [])], zsT0, zsB, zuF, [])
/-- behind the names: good, or a fault -/
noncomputable def zs40 : zS := ([(184, 40, zsL, [])], zsT0, zsB, zuF, [])
noncomputable def zs40F : zS := ([(184, 40, [(0, .inr (.inl 469))], [])], zads zT0 [(469, 73, zK 4, .inr (.inr (.inr (.inl (1, 4)))))], zsB, [], [])
def zsSA : zSt0 := [(469, 73, zK 35, .inl (zX 3)), (479, 2, zX 3, .inl (zX 4)), (469, 73, zK 8, .inr (.inr (.inr (.inl (1, 5))))), (469, 73, zK 6, .inl (zX 5)), (469, 73, zK 7, .inl (zX 6)), (469, 73, zK 3, .inl (zX 2)), (469, 73, zK 4, .inl (zK 0))]
noncomputable def zs81A : zS := ([(184, 81, zsL, [.inl (zX 4), .inr (.inl 469)])], zads zT0 zsSA, [(0, 1600), (0, 1600), (0, 1600), (0, 1), (0, 3), (0, 1600), (0, 1600)], [(1, [(5, 1), (6, -1)]), (0, [(2, -1), (6, 1)]), (0, [(1, 1), (5, -1)])], [])
def zsSB : zSt0 := [(469, 73, zK 35, .inl (zX 3)), (479, 2, zX 3, .inl (zX 4)), (469, 73, zK 8, .inl (zK 0)), (469, 73, zK 6, .inl (zX 2)), (469, 73, zK 7, .inl (zX 2)), (469, 73, zK 3, .inl (zX 2)), (469, 73, zK 4, .inl (zK 0))]
noncomputable def zs81B : zS := ([(184, 81, zsL, [.inl (zX 4), .inr (.inl 469)])], zads zT0 zsSB, zsB, [], [])
noncomputable def zs82F : zS := ([(184, 82, [(0, .inr (.inl 469))], [])], zads zT0 [(469, 73, zK 4, .inr (.inr (.inr (.inl (1, 4)))))], zsB, [], [])
noncomputable def zs43 : zS := ([(184, 43, [(0, .inr (.inl 469))], [])], zads zT0 [(469, 73, zK 4, .inr (.inr (.inr (.inl (1, 4)))))], zsB, [], [])
def zi5' : List zL := [zX 0, zX 1, zX 2, zX 3, zX 4]
noncomputable def zsTg0 : List zTg := [(zs40, zi5', []), (zs40F, zi5', [])]
noncomputable def zsTg : List zTg := [(zs81A, zi5', [.inr (.inr (469, zK 6)), .inr (.inr (469, zK 7))]), (zs81B, zi5', []), (zs82F, zi5', []), (zs43, zi5', [])]
def zsW1 : zW := .branch 482 (.leaf (470, [4, 5, 6, 7, 8, 9, 10])) (.branch 489 (.leaf (483, [0])) (.leaf (490, [0])))
def zsW2 : zW := .leaf (480, [0])
noncomputable def zsC : zCl := fun d y as t en => zcal zsW1 d y as t en [zc_3003, zc_3103, zc_3100, zc_3104]
theorem zs_run0 : zrun (zstep mi_P 8 zsW1 false [] [] zsC) (fun s => zsTg0.any (zstg s) || znF s) 5000 [zsE] = true := by decide +kernel
theorem zs_run1 : zrun (zstep mi_P 8 zsW1 false [] [] zsC) (fun s => zsTg.any (zstg s) || znF s) 5000 [zs40] = true := by decide +kernel
theorem zs_run2 : zrun (zstep mi_P 8 zsW1 false [] [] zsC) (fun s => zsTg.any (zstg s) || znF s) 500 [zs40F] = true := by decide +kernel
theorem zs_c0 : zadc zT0 zsS0 = true := by decide +kernel
theorem zs_tA : ztle ([(0, 1600), (0, 1600), (0, 1600), (0, 1), (0, 3), (0, 1600), (0, 1600)], [(1, [(5, 1), (6, -1)]), (0, [(2, -1), (6, 1)]), (0, [(1, 1), (5, -1)])], []) [] zs81A.2.1 zT0 = true := by decide +kernel
theorem zs_tB : ztle (zsB, [], []) [] zs81B.2.1 zT0 = true := by decide +kernel
theorem zs_tF : ztle (zsB, [], []) [] zs82F.2.1 zT0 = true := by decide +kernel
theorem zs_kA : (zchk zs81A.2.1 469 (zK 6) (zX 5) && (zchk zs81A.2.1 469 (zK 7) (zX 6) && (zchk zs81A.2.1 469 (zK 4) (zK 0) && (zchb zs81A.2.1 469 (zK 8) 1 5 && zhcb mi_P 8 188 [.inl (zX 4), .inr (.inl 469)] [] zs81A.2.1)))) = true := by decide +kernel
theorem zs_kB : (zchk zs81B.2.1 469 (zK 6) (zX 2) && (zchk zs81B.2.1 469 (zK 7) (zX 2) && (zchk zs81B.2.1 469 (zK 4) (zK 0) && (zchk zs81B.2.1 469 (zK 8) (zK 0) && zhcb mi_P 8 188 [.inl (zX 4), .inr (.inl 469)] [] zs81B.2.1)))) = true := by decide +kernel
theorem zs_kF : zchb zs82F.2.1 469 (zK 4) 1 4 = true := by decide +kernel
/-- the end: 0 sorts of rb, 1 of the other -/
def zsMx (b : Int) : zSt0 := [(469, 73, zK 35, .inl (zK b)), (479, 2, zK b, .inl (zX 0)), (479, 2, zK (1 - b), .inl (zX 1))]
noncomputable def zsX (b : Int) : zS := ([(184, 82, [(0, .inr (.inl 469))], [])], zads zT0 (zsMx b), [(0, 3), (0, 4)], [], [])
def zsQ (b : Int) : zPo := ([], [], [(479, [(zK b, .inl (1, [(0, 1)])), (zK (1 - b), .inl (zX 1))])], none)
noncomputable def zsk (b : Int) : Bool := zend? 8 zsW2 [] 2 [(0, 3), (0, 4)] (zads zT0 (zsMx b)) [(zsQ b, [])] (zsX b) && (zadc zT0 (zsMx b) && (zpwk (zsQ b).2.2.1 479 (zK b) (1, [(0, 1)]) && zpwk (zsQ b).2.2.1 479 (zK (1 - b)) (zX 1)))
theorem zs_x0 : zsk 0 = true := by decide +kernel
theorem zs_x1 : zsk 1 = true := by decide +kernel
theorem zT_so {h : mH} (hT : zHp [] zT0 h) {j : Int} (h0 : 0 ≤ j) (h1 : j < 2) : 0 ≤ zI h 479 j ∧ zI h 479 j ≤ 4 := zT_b hT (n := 2) (by decide +kernel) (by decide +kernel) h0 h1 (by decide +kernel)
theorem zT_fk {h : mH} (hT : zHp [] zT0 h) : 0 ≤ zI h 469 4 ∧ zI h 469 4 ≤ 4 := zI_cb hT (k := 469) (e := zK 4) (by decide +kernel) zE_K (by omega) (by rw [show zlen zT0 469 = 73 by decide +kernel]; omega)
/-- sorts[rb]++, and back -/
theorem zsfin {S : Nat × (Nat → Int32)} {h : mH} {l0 : List (Nat × Value)} (hT : zHp [] zT0 h) (hb : zI h 469 35 = 0 ∨ zI h 469 35 = 1) (hl : mi_lg l0 0 = some (.ref 469)) (hk : zI h 479 (zI h 469 35) ≤ 3) : mi_T mi_P S 8 184 (82, l0, []) h (fun x h' => x = none ∧ zsm zsW2 h h' ∧ zHp [] zT0 h' ∧ zI h' 479 (zI h 469 35) = zI h 479 (zI h 469 35) + 1 ∧ zI h' 479 (1 - zI h 469 35) = zI h 479 (1 - zI h 469 35)) := by
  have key : ∀ b : Int, zsk b = true → zI h 469 35 = b → 0 ≤ b → b ≤ 1 → mi_T mi_P S 8 184 (82, l0, []) h (fun x h' => x = none ∧ zsm zsW2 h h' ∧ zHp [] zT0 h' ∧ zI h' 479 b = zI h 479 b + 1 ∧ zI h' 479 (1 - b) = zI h 479 (1 - b)) := by
    intro b hkb eb b0 b1
    unfold zsk at hkb
    simp only [Bool.and_eq_true] at hkb
    obtain ⟨k1, k2, k3, k4⟩ := hkb
    rw [eb] at hk
    have s1 := zT_so hT (j := b) b0 (by omega)
    have s2 := zT_so hT (j := 1 - b) (by omega) (by omega)
    have hR : zRS (fun k => zsm zsW2 h k) [zI h 479 b, zI h 479 (1 - b)] (zsX b) [(184, (82, l0, []))] h := by
      refine ⟨⟨l0, [], [], rfl, ?_, rfl, rfl⟩, zads_ok (sp := zsMx b) (zHp_mono _ hT) k2 ⟨⟨35, zE_K, by omega, by omega, by rw [eb]; exact zE_K⟩, ⟨b, zE_K, b0, by omega, zE_X rfl⟩, ⟨1 - b, zE_K, by omega, by omega, zE_X rfl⟩, trivial⟩, zEn_mk (zB_cons s1.1 hk (zB_cons s2.1 s2.2 zB_nil)) zFa_nil, zsm_rf⟩
      intro q hq
      rw [List.mem_singleton.mp hq]
      exact ⟨_, hl, rfl⟩
    have M : zKK mi_P S 8 (zEd zsW2 h [zI h 479 b, zI h 479 (1 - b)] [(0, 3), (0, 4)] [(zsQ b, [])]) [(184, (82, l0, []))] h := zend (r := [zI h 479 b, zI h 479 (1 - b)]) (cts := []) (pre := zads zT0 (zsMx b)) (s := zsX b) k1 (fun c hc => by cases hc) hR
    have Mm : mi_T mi_P S 8 184 (82, l0, []) h _ := M
    refine mi_T_mono Mm ?_
    rintro x h' ⟨hsm, hT', po, hpo, s, -, -, pw, pr⟩
    have hpo : po = zsQ b := List.mem_singleton.mp hpo
    subst hpo
    have w1 := zPw_ck pw k3 zE_K (zE_mono s (zE_1 rfl))
    have w2 := zPw_ck pw k4 zE_K (zE_mono s (zE_X rfl))
    exact ⟨pr, hsm, hT', by rw [w1]; omega, w2⟩
  rcases hb with q | q
  · rw [q]; exact key 0 zs_x0 q (by omega) (by omega)
  · rw [q]; exact key 1 zs_x1 q (by omega) (by omega)
/-- the house in use stays as it was -/
theorem zOm_keep {h h' : mH} (hO : zOm h) (ho' : zobj h' 469) (hb : zI h 469 34 = 0 ∨ zI h 469 34 = 1) (e34 : zI h' 469 34 = zI h 469 34) (es : zI h' 479 (zI h 469 34) = zI h 479 (zI h 469 34)) (h4 : zI h 479 (zI h 469 34) ≤ 4) (ef : ∀ s : Int, 0 ≤ s → s < 4 → zI h' 486 (4 * zI h 469 34 + s) = zI h 486 (4 * zI h 469 34 + s) ∧ zI h' 487 (4 * zI h 469 34 + s) = zI h 487 (4 * zI h 469 34 + s)) (ec : ∀ j : Int, 560 * zI h 469 34 ≤ j → j < 560 * zI h 469 34 + 560 → zI h' 490 j = zI h 490 j) : zOm h' := by
  refine ⟨ho', ?_⟩
  rw [e34, es]
  intro s s0 s1
  obtain ⟨n, H, a1, a2, a3, a4⟩ := hO.2 s s0 s1
  have f := ef s s0 (by omega)
  exact ⟨n, H, by rw [f.1, f.2]; exact a1, by rw [f.1]; exact zhg_eq (fun j x y => ec j (by omega) (by omega)) a2, by rw [f.1]; exact a3, by rw [f.2]; exact a4⟩
/-- what may be written -/
def zWt : zW := .branch 486 (.branch 481 (.branch 479 (.leaf (470, [4, 5, 6, 7, 8, 9, 10, 36, 37, 38, 39])) (.leaf (480, [0]))) (.branch 482 (.leaf (482, [0])) (.leaf (483, [0])))) (.branch 490 (.branch 487 (.leaf (487, [0])) (.branch 489 (.leaf (488, [0])) (.leaf (490, [0])))) (.branch 492 (.branch 491 (.leaf (491, [0])) (.leaf (492, [0]))) (.branch 493 (.leaf (493, [0])) (.leaf (494, [0])))))
def zRt2 (h h' : mH) : Prop := zsm zWt h h' ∧ zHp [] zT0 h' ∧ zOm2 h' ∧ ((1 ≤ zI h' 469 4 ∧ zI h' 469 4 ≤ 4) ∨ (zI h' 469 4 = 0 ∧ zI h' 469 3 = zI h 469 3 ∧ (zTA h' ∧ zI h 469 7 ≤ zI h' 469 6 ∨ zTB h')))
theorem zsort {S : Nat × (Nat → Int32)} {h : mH} (hT : zHp [] zT0 h) (hA : zTA h) (hf : zI h 469 4 = 0) (hO : zOm2 h) (hk : zI h 479 (zI h 469 35) ≤ 3) : mi_T mi_P S 8 184 (0, mi_ent 0 [.ref 469], []) h (fun x h' => x = none ∧ zRt2 h h') := by
  have ho := zT0_obj hT
  obtain ⟨hOm, hb, hbk, h4, hRI⟩ := id hO
  have hRI : zRI h := by
    rcases hRI with q | q
    · omega
    · exact q
  obtain ⟨a1, a2, a3, a4, a5, a6⟩ := id hA
  have s1 := zT_so hT (j := zI h 469 35) (by omega) (by omega)
  have hB : zB zsB [zI h 469 6, zI h 469 7, zI h 469 3, zI h 469 35, zI h 479 (zI h 469 35)] := zB_cons (by omega) (by omega) (zB_cons (by omega) (by omega) (zB_cons (by omega) (by omega) (zB_cons (by omega) (by omega) (zB_cons s1.1 hk zB_nil))))
  have hH0 : zHp [zI h 469 6, zI h 469 7, zI h 469 3, zI h 469 35, zI h 479 (zI h 469 35)] zsT0 h := zads_ok (sp := zsS0) (zHp_mono _ hT) zs_c0 ⟨⟨35, zE_K, by omega, by omega, zE_X rfl⟩, ⟨zI h 469 35, zE_X rfl, by omega, by omega, zE_X rfl⟩, ⟨8, zE_K, by omega, by omega, a1, a2⟩, ⟨6, zE_K, by omega, by omega, zE_X rfl⟩, ⟨7, zE_K, by omega, by omega, zE_X rfl⟩, ⟨3, zE_K, by omega, by omega, zE_X rfl⟩, ⟨4, zE_K, by omega, by omega, by rw [hf]; exact zE_K⟩, trivial⟩
  have hF0 : zFa zuF [zI h 469 6, zI h 469 7, zI h 469 3, zI h 469 35, zI h 479 (zI h 469 35)] := zFa_cons (zE_2 rfl rfl) (by omega) (zFa_cons (zE_2 rfl rfl) (by omega) zFa_nil)
  have hR : zRS (fun k => zsm zsW1 h k) [zI h 469 6, zI h 469 7, zI h 469 3, zI h 469 35, zI h 479 (zI h 469 35)] zsE [(184, (0, mi_ent 0 [.ref 469], []))] h := by
    have hSt : zSt [zI h 469 6, zI h 469 7, zI h 469 3, zI h 469 35, zI h 479 (zI h 469 35)] [.inr (.inl 469)] [.ref 469] := zSt_k ⟨rfl, rfl⟩ rfl
    exact ⟨⟨_, _, [], rfl, zent_ok 0 hSt, rfl, rfl⟩, hH0, zEn_mk hB hF0, zsm_rf⟩
  have hJ : ∀ h1 h2, zsm zsW1 h h1 → zsm zsW1 h1 h2 → zsm zsW1 h h2 := fun h1 h2 q z => zsm_tr q z (fun _ _ z => z)
  have hcal : zClO mi_P S (fun k => zsm zsW1 h k) zsC := zclT (W := zsW1) hJ (fun _ _ z => z) (by
    intro c hc
    simp only [List.mem_cons, List.not_mem_nil, or_false] at hc
    rcases hc with rfl | rfl | rfl | rfl
    · exact zt_3003
    · exact zt_3103
    · exact zt_3100
    · exact zt_3104)
  -- with a fault: h1 is as h but for what zsW1 lets
  have bad : ∀ {h1 h2 : mH}, zsm zsW1 h h1 → zHp [] zT0 h1 → 1 ≤ zI h1 469 4 → zsm zsW2 h1 h2 → zHp [] zT0 h2 → zI h2 479 (1 - zI h 469 35) = zI h1 479 (1 - zI h 469 35) → zRt2 h h2 := by
    intro h1 h2 k4 hT1 f1 m4 hT2 es
    have ho1 := zobj_sm k4 ho
    have x4 : zI h2 469 4 = zI h1 469 4 := zI_smf (j := 4) m4 ho1 (by decide +kernel)
    have e34 : zI h2 469 34 = zI h 469 34 := (zI_smf (j := 34) m4 ho1 (by decide +kernel)).trans (zI_smf (j := 34) k4 ho (by decide +kernel))
    have e35 : zI h2 469 35 = zI h 469 35 := (zI_smf (j := 35) m4 ho1 (by decide +kernel)).trans (zI_smf (j := 35) k4 ho (by decide +kernel))
    have e479 : zI h1 479 = zI h 479 := funext (zI_sm k4 (by decide +kernel))
    have e486 : zI h2 486 = zI h 486 := (funext (zI_sm m4 (by decide +kernel))).trans (funext (zI_sm k4 (by decide +kernel)))
    have e487 : zI h2 487 = zI h 487 := (funext (zI_sm m4 (by decide +kernel))).trans (funext (zI_sm k4 (by decide +kernel)))
    have e490 : zI h2 490 = zI h 490 := (funext (zI_sm m4 (by decide +kernel))).trans (funext (zI_sm k4 (by decide +kernel)))
    have es' : zI h2 479 (zI h 469 34) = zI h 479 (zI h 469 34) := by rw [hbk, es, e479]
    have fb := zT_fk hT2
    refine ⟨zsm_tr (zsm_tr (W := zWt) zsm_rf k4 (zwle_ok (by decide +kernel))) m4 (zwle_ok (by decide +kernel)), hT2, ⟨zOm_keep hOm (zT0_obj hT2) (by omega) e34 es' h4 (fun s _ _ => by rw [e486, e487]; exact ⟨rfl, rfl⟩) (fun j _ _ => by rw [e490]), by rw [e35]; exact hb, by rw [e34, e35]; exact hbk, by rw [e34, es']; exact h4, Or.inl (by omega)⟩, Or.inl ⟨by omega, fb.2⟩⟩
  -- the call of readRule
  have call : ∀ {h1 : mH} {fs1 : List (Nat × mF)} {l0 : List (Nat × Value)} {i : Int32}, zsm zsW1 h h1 → zHp [] zT0 h1 → zI h1 469 4 = 0 → i.toInt = zI h 479 (zI h 469 35) → (zTA h1 ∧ zI h 469 7 ≤ zI h1 469 6 ∨ zTB h1) → mi_lg l0 0 = some (.ref 469) → mi_T mi_P S 7 188 (0, mi_ent 0 [.ref 469, .int i], []) h1 (fun x h2 => x = none ∧ mi_T mi_P S 8 184 (82, l0, []) h2 (fun x h' => x = none ∧ zRt2 h h')) := by
    intro h1 fs1 l0 i k4 hT1 f1 hi tok hl
    have ho1 := zobj_sm k4 ho
    have e34 : zI h1 469 34 = zI h 469 34 := zI_smf (j := 34) k4 ho (by decide +kernel)
    have e35 : zI h1 469 35 = zI h 469 35 := zI_smf (j := 35) k4 ho (by decide +kernel)
    have e36 : zI h1 469 36 = zI h 469 36 := zI_smf (j := 36) k4 ho (by decide +kernel)
    have e3 : zI h1 469 3 = zI h 469 3 := zI_smf (j := 3) k4 ho (by decide +kernel)
    have e479 : zI h1 479 = zI h 479 := funext (zI_sm k4 (by decide +kernel))
    have e481 : zI h1 481 = zI h 481 := funext (zI_sm k4 (by decide +kernel))
    have e486 : zI h1 486 = zI h 486 := funext (zI_sm k4 (by decide +kernel))
    have e487 : zI h1 487 = zI h 487 := funext (zI_sm k4 (by decide +kernel))
    have e490 : zI h1 490 = zI h 490 := funext (zI_sm k4 (by decide +kernel))
    obtain ⟨r1, r2, r3, r4, r5⟩ := hRI
    refine mi_T_mono (zrule (S := S) (s := i) (b := zI h 469 35) hT1 (tok.imp (fun q => q.1) id) f1 e35 hb (by omega) (by omega) (by rw [e481]; exact r3) (by rw [e481]; exact r4) (by rw [e36]; exact r1) (by rw [e36, e481]; exact r2)) ?_
    rintro x h2 ⟨⟨rfl, hT2, sm2, cd2, ⟨N, H, n1, n2, n3⟩, f2, t2, end2⟩, oth⟩
    refine ⟨rfl, ?_⟩
    have ho2 := zT0_obj hT2
    have x35 : zI h2 469 35 = zI h 469 35 := (zI_smf (j := 35) sm2 ho1 (by decide +kernel)).trans e35
    have x34 : zI h2 469 34 = zI h 469 34 := (zI_smf (j := 34) sm2 ho1 (by decide +kernel)).trans e34
    have x479 : zI h2 479 = zI h 479 := (funext (zI_sm sm2 (by decide +kernel))).trans e479
    refine mi_T_mono (zsfin hT2 (by rw [x35]; exact hb) hl (by rw [x35, x479]; exact hk)) ?_
    rintro x h3 ⟨rfl, sm3, hT3, v1, v2⟩
    refine ⟨rfl, ?_⟩
    rw [x35] at v1 v2
    have y34 : zI h3 469 34 = zI h 469 34 := (zI_smf (j := 34) sm3 ho2 (by decide +kernel)).trans x34
    have y35 : zI h3 469 35 = zI h 469 35 := (zI_smf (j := 35) sm3 ho2 (by decide +kernel)).trans x35
    have y36 : zI h3 469 36 = zI h2 469 36 := zI_smf (j := 36) sm3 ho2 (by decide +kernel)
    have y3 : zI h3 469 3 = zI h2 469 3 := zI_smf (j := 3) sm3 ho2 (by decide +kernel)
    have y4 : zI h3 469 4 = zI h2 469 4 := zI_smf (j := 4) sm3 ho2 (by decide +kernel)
    have y6 : zI h3 469 6 = zI h2 469 6 := zI_smf (j := 6) sm3 ho2 (by decide +kernel)
    have y7 : zI h3 469 7 = zI h2 469 7 := zI_smf (j := 7) sm3 ho2 (by decide +kernel)
    have y8 : zI h3 469 8 = zI h2 469 8 := zI_smf (j := 8) sm3 ho2 (by decide +kernel)
    have y481 : zI h3 481 = zI h2 481 := funext (zI_sm sm3 (by decide +kernel))
    have y486 : zI h3 486 = zI h2 486 := funext (zI_sm sm3 (by decide +kernel))
    have y487 : zI h3 487 = zI h2 487 := funext (zI_sm sm3 (by decide +kernel))
    have y490 : zI h3 490 = zI h2 490 := funext (zI_sm sm3 (by decide +kernel))
    rw [hi] at f2 t2 oth
    rw [e36] at cd2 n1 n2 f2
    have es' : zI h3 479 (zI h 469 34) = zI h 479 (zI h 469 34) := by rw [hbk, v2, x479]
    have hO3 : zOm h3 := zOm_keep hOm (zT0_obj hT3) (by omega) y34 es' h4 (fun s q0 q1 => by
      have := oth (4 * zI h 469 34 + s) (by omega) (by omega) (by omega)
      rw [y486, y487, this.1, this.2, e486, e487]
      exact ⟨rfl, rfl⟩) (fun j q0 q1 => by rw [y490, cd2 j (by omega) (by omega) (by omega), e490])
    have hsmA : zsm zWt h h3 := zsm_tr (zsm_tr (zsm_tr (W := zWt) zsm_rf k4 (zwle_ok (by decide +kernel))) sm2 (zwle_ok (by decide +kernel))) sm3 (zwle_ok (by decide +kernel))
    have mk : (1 ≤ zI h3 469 4 ∨ zRI h3) → zOm2 h3 := fun q => ⟨hO3, by rw [y35]; exact hb, by rw [y34, y35]; exact hbk, by rw [y34, es']; exact h4, q⟩
    rcases end2 with q | ⟨q1, q2, q3, q4, q5, q6, q7⟩
    · exact ⟨hsmA, hT3, mk (Or.inl (by omega)), Or.inl ⟨by omega, by omega⟩⟩
    · refine ⟨hsmA, hT3, mk (Or.inr ?_), Or.inr ⟨by omega, by omega, ?_⟩⟩
      · unfold zRI
        rw [y35, y36, y481, y486, y487, y490, v1, x479]
        refine ⟨by omega, q5, q6, q7, ?_⟩
        intro s z0 z1
        rcases (by omega : s < zI h 479 (zI h 469 35) ∨ s = zI h 479 (zI h 469 35)) with z | z
        · obtain ⟨n, H', b1, b2, b3, b4⟩ := r5 s z0 z
          have := oth (4 * zI h 469 35 + s) (by omega) (by omega) (by omega)
          rw [this.1, this.2, e486, e487]
          exact ⟨n, H', b1, zhg_eq (fun j p0 p1 => by rw [cd2 j (by omega) (by omega) (by omega), e490]) b2, b3, by omega⟩
        · subst z
          rw [f2, t2]
          exact ⟨N, H, n1, n2, r1, by omega⟩
      · rcases q2 with q2 | q2
        · refine Or.inl ⟨zTA_eq ⟨y3, y6, y7, y8⟩ q2, ?_⟩
          rcases tok with ⟨-, t⟩ | ⟨-, t, -⟩
          · omega
          · obtain ⟨z1, z2, z3, z4, z5, z6⟩ := q2; omega
        · exact Or.inr (zTB_eq ⟨y3, y6, y7, y8⟩ q2)
  have cut : ∀ F ∈ zsTg, ∀ r1 rc fs h1, rc.length = F.2.1.length + F.2.2.length → (∀ (k : Nat) (e : zL), F.2.1[k]? = some e → ∃ x, rc[k]? = some x ∧ zE ([zI h 469 6, zI h 469 7, zI h 469 3, zI h 469 35, zI h 479 (zI h 469 35)] ++ r1) e x) → zRS (fun k => zsm zsW1 h k) rc F.1 fs h1 → zKK mi_P S 8 (fun x h' => x = none ∧ zRt2 h h') fs h1 := by
    intro F hFF r1 rc fs1 h1 q1 q2 q3
    simp only [zsTg, List.mem_cons, List.not_mem_nil, or_false] at hFF
    have ge : zGe [zI h 469 6, zI h 469 7, zI h 469 3, zI h 469 35, zI h 479 (zI h 469 35)] zi5' [zI h 469 6, zI h 469 7, zI h 469 3, zI h 469 35, zI h 479 (zI h 469 35)] := zGe_cons (zE_X rfl) (zGe_cons (zE_X rfl) (zGe_cons (zE_X rfl) (zGe_cons (zE_X rfl) (zGe_cons (zE_X rfl) zGe_nil))))
    rcases hFF with rfl | rfl | rfl | rfl
    · obtain ⟨tl, e, hl2⟩ := zGe_eq (n := 2) q1 q2 ge
      subst e
      obtain ⟨k1, k2, k3, k4⟩ := q3
      have hT1 : zHp [] zT0 h1 := zHp_T k3 zs_tA k2
      have ck := zs_kA
      simp only [Bool.and_eq_true] at ck
      have e3 : zI h1 469 3 = zI h 469 3 := zI_smf (j := 3) k4 ho (by decide +kernel)
      have hB3 : zB (zsB ++ [(0, 1600), (0, 1600)]) ([zI h 469 6, zI h 469 7, zI h 469 3, zI h 469 35, zI h 479 (zI h 469 35)] ++ tl) := k3.1
      have hB2 : zB [(0, 1600), (0, 1600)] tl := zB_tail rfl hB3
      obtain ⟨x1, tl1, rfl, x2, x3, hB2⟩ := zB_uncons hB2
      obtain ⟨y1, tl2, rfl, y2, y3, hB2⟩ := zB_uncons hB2
      have := zB_unnil hB2
      subst this
      have u1 := zFa_hd k3.2.1 (zE_2 rfl rfl)
      have u2 := zFa_hd (zFa_tl k3.2.1) (zE_2 rfl rfl)
      have u3 := zFa_hd (zFa_tl (zFa_tl k3.2.1)) (zE_2 rfl rfl)
      have z6 := zI_ck k2 ck.1 zE_K (zE_X rfl)
      have z7 := zI_ck k2 ck.2.1 zE_K (zE_X rfl)
      have z4 := zI_ck k2 ck.2.2.1 zE_K zE_K
      have z8 := zI_cb k2 ck.2.2.2.1 zE_K (by omega) (by rw [show zlen zs81A.2.1 469 = 73 by decide +kernel]; omega)
      refine zcallR (R := fun x h2 => x = none ∧ ∀ l0, mi_lg l0 0 = some (.ref 469) → mi_T mi_P S 8 184 (82, l0, []) h2 (fun x h' => x = none ∧ zRt2 h h')) (y := 188) (by decide +kernel) ck.2.2.2.2 ⟨k1, k2, k3, k4⟩ ?_ ?_
      · intro xs hxs
        have hxs : zSt _ [.inr (.inl 469), .inl (zX 4)] xs := hxs
        obtain ⟨x, st', rfl, g1, g2⟩ := zSt_c hxs
        obtain ⟨y, st2, rfl, g3, g4⟩ := zSt_c g2
        have g4 : st2 = [] := g4
        subst g4
        have := zR_ref g1
        subst this
        obtain ⟨i, rfl, gi⟩ := zR_int g3
        have gi : i.toInt = zI h 479 (zI h 469 35) := zE_fun gi (zE_X rfl)
        have tok : zTA h1 ∧ zI h 469 7 ≤ zI h1 469 6 ∨ zTB h1 := Or.inl ⟨⟨z8.1, z8.2, by omega, by omega, by omega, by omega⟩, by omega⟩
        obtain ⟨n, x, h2, er, e1, -⟩ := call (fs1 := fs1) (l0 := [(0, .ref 469)]) k4 hT1 z4 gi tok rfl
        refine ⟨n, x, h2, er, e1, fun l0 hl0 => ?_⟩
        obtain ⟨n', x', h2', er', -, e2⟩ := call (fs1 := fs1) (l0 := l0) k4 hT1 z4 gi tok hl0
        have er1 := mi_run_le n (max n n') _ _ _ _ _ (Nat.le_max_left _ _) er
        have er2 := mi_run_le n' (max n n') _ _ _ _ _ (Nat.le_max_right _ _) er'
        rw [er1] at er2
        cases er2
        exact e2
      · rintro x h2 l0 rest hl hrest ⟨rfl, hg⟩
        have hrest : rest = [] := hrest
        subst hrest
        obtain ⟨v, v1, v2⟩ := hl _ (List.mem_cons_of_mem _ (List.mem_cons_self ..))
        have v2 : v = .ref 469 := v2
        exact hg l0 (by rw [v1, v2])
    · obtain ⟨tl, e, hl2⟩ := zGe_eq (n := 0) q1 q2 ge
      have := List.eq_nil_of_length_eq_zero hl2
      subst this
      rw [List.append_nil] at e
      subst e
      obtain ⟨k1, k2, k3, k4⟩ := q3
      have hT1 : zHp [] zT0 h1 := zHp_T k3 zs_tB k2
      have ck := zs_kB
      simp only [Bool.and_eq_true] at ck
      have e3 : zI h1 469 3 = zI h 469 3 := zI_smf (j := 3) k4 ho (by decide +kernel)
      have z6 := zI_ck k2 ck.1 zE_K (zE_X rfl)
      have z7 := zI_ck k2 ck.2.1 zE_K (zE_X rfl)
      have z4 := zI_ck k2 ck.2.2.1 zE_K zE_K
      have z8 := zI_ck k2 ck.2.2.2.1 zE_K zE_K
      refine zcallR (R := fun x h2 => x = none ∧ ∀ l0, mi_lg l0 0 = some (.ref 469) → mi_T mi_P S 8 184 (82, l0, []) h2 (fun x h' => x = none ∧ zRt2 h h')) (y := 188) (by decide +kernel) ck.2.2.2.2 ⟨k1, k2, k3, k4⟩ ?_ ?_
      · intro xs hxs
        have hxs : zSt _ [.inr (.inl 469), .inl (zX 4)] xs := hxs
        obtain ⟨x, st', rfl, g1, g2⟩ := zSt_c hxs
        obtain ⟨y, st2, rfl, g3, g4⟩ := zSt_c g2
        have g4 : st2 = [] := g4
        subst g4
        have := zR_ref g1
        subst this
        obtain ⟨i, rfl, gi⟩ := zR_int g3
        have gi : i.toInt = zI h 479 (zI h 469 35) := zE_fun gi (zE_X rfl)
        have tok : zTA h1 ∧ zI h 469 7 ≤ zI h1 469 6 ∨ zTB h1 := Or.inr ⟨z8, by omega, by omega, by omega, by omega⟩
        obtain ⟨n, x, h2, er, e1, -⟩ := call (fs1 := fs1) (l0 := [(0, .ref 469)]) k4 hT1 z4 gi tok rfl
        refine ⟨n, x, h2, er, e1, fun l0 hl0 => ?_⟩
        obtain ⟨n', x', h2', er', -, e2⟩ := call (fs1 := fs1) (l0 := l0) k4 hT1 z4 gi tok hl0
        have er1 := mi_run_le n (max n n') _ _ _ _ _ (Nat.le_max_left _ _) er
        have er2 := mi_run_le n' (max n n') _ _ _ _ _ (Nat.le_max_right _ _) er'
        rw [er1] at er2
        cases er2
        exact e2
      · rintro x h2 l0 rest hl hrest ⟨rfl, hg⟩
        have hrest : rest = [] := hrest
        subst hrest
        obtain ⟨v, v1, v2⟩ := hl _ (List.mem_cons_of_mem _ (List.mem_cons_self ..))
        have v2 : v = .ref 469 := v2
        exact hg l0 (by rw [v1, v2])
    · obtain ⟨tl, e, hl2⟩ := zGe_eq (n := 0) q1 q2 ge
      have := List.eq_nil_of_length_eq_zero hl2
      subst this
      rw [List.append_nil] at e
      subst e
      obtain ⟨k1, k2, k3, k4⟩ := q3
      have hT1 : zHp [] zT0 h1 := zHp_T k3 zs_tF k2
      have f1 := zI_cb k2 zs_kF zE_K (by omega) (by rw [show zlen zs82F.2.1 469 = 73 by decide +kernel]; omega)
      have e35 : zI h1 469 35 = zI h 469 35 := zI_smf (j := 35) k4 ho (by decide +kernel)
      have e479 : zI h1 479 = zI h 479 := funext (zI_sm k4 (by decide +kernel))
      obtain ⟨l0, st0, fs', rfl, hl, hst, hfr⟩ := k1
      have hst : st0 = [] := hst
      have hfr : fs' = [] := hfr
      subst hst
      subst hfr
      obtain ⟨v, v1, v2⟩ := hl _ (List.mem_cons_self ..)
      have v2 : v = .ref 469 := v2
      have M := zsfin (S := S) (l0 := l0) hT1 (by rw [e35]; exact hb) (by rw [v1, v2]) (by rw [e35, e479]; exact hk)
      refine mi_T_mono M ?_
      rintro x h2 ⟨rfl, m4, hT2, w1, w2⟩
      rw [e35] at w2
      exact ⟨rfl, bad k4 hT1 f1.1 m4 hT2 w2⟩
    · obtain ⟨tl, e, hl2⟩ := zGe_eq (n := 0) q1 q2 ge
      have := List.eq_nil_of_length_eq_zero hl2
      subst this
      rw [List.append_nil] at e
      subst e
      obtain ⟨k1, k2, k3, k4⟩ := q3
      have hT1 : zHp [] zT0 h1 := zHp_T k3 zs_tF k2
      have k2' : zHp [zI h 469 6, zI h 469 7, zI h 469 3, zI h 469 35, zI h 479 (zI h 469 35)] zs82F.2.1 h1 := k2
      have f1 := zI_cb k2' zs_kF zE_K (by omega) (by rw [show zlen zs82F.2.1 469 = 73 by decide +kernel]; omega)
      obtain ⟨l0, st0, fs', rfl, hl, hst, hfr⟩ := k1
      have hst : st0 = [] := hst
      have hfr : fs' = [] := hfr
      subst hst
      subst hfr
      exact mi_T_re rfl (show mi_at mi_P 184 43 = .return_ by decide +kernel) ⟨rfl, bad k4 hT1 f1.1 zsm_rf hT1 rfl⟩
  have main := zseg (S := S) (Q := fun x h' => x = none ∧ zRt2 h h') (tg := zsTg0) (fin := znF) hJ hcal zs_run0 hR ?_ (fun s hs => by cases hs)
  · exact main
  · intro F hFF r1 rc fs1 h1 q1 q2 q3
    simp only [zsTg0, List.mem_cons, List.not_mem_nil, or_false] at hFF
    have ge : zGe [zI h 469 6, zI h 469 7, zI h 469 3, zI h 469 35, zI h 479 (zI h 469 35)] zi5' [zI h 469 6, zI h 469 7, zI h 469 3, zI h 469 35, zI h 479 (zI h 469 35)] := zGe_cons (zE_X rfl) (zGe_cons (zE_X rfl) (zGe_cons (zE_X rfl) (zGe_cons (zE_X rfl) (zGe_cons (zE_X rfl) zGe_nil))))
    rcases hFF with rfl | rfl
    · have e := zGe_eq0 q1 q2 ge
      subst e
      exact zseg (tg := zsTg) (fin := znF) hJ hcal zs_run1 q3 cut (fun s hs => by cases hs)
    · have e := zGe_eq0 q1 q2 ge
      subst e
      exact zseg (tg := zsTg) (fin := znF) hJ hcal zs_run2 q3 cut (fun s hs => by cases hs)
