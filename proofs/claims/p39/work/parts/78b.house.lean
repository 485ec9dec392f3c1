/-! house() of the reference, by hand -/
noncomputable def zfinU (np : Nat) (bd : zBd) (pre : zT) (ps : List (zPo × List (Nat ⊕ (Nat × zL)))) (s : zS) : Bool := zfin mi_P np bd pre ps s && ztle s.2.2 [] s.2.1 zT1
def zEu (W : zW) (h : mH) (r : List Int) (bd : zBd) (ps : List (zPo × List (Nat ⊕ (Nat × zL)))) (x : Option Value) (h' : mH) : Prop := zsm W h h' ∧ zHp [] zT1 h' ∧ ∃ po ∈ ps.map (fun p => p.1), ∃ s, zB (bd ++ po.1) (r ++ s) ∧ zFa po.2.1 (r ++ s) ∧ zPw (r ++ s) po.2.2.1 h' ∧ zRt (r ++ s) po.2.2.2 x
noncomputable def zenu? (D : Nat) (W : zW) (cts : List zCt) (np : Nat) (bd : zBd) (pre : zT) (ps : List (zPo × List (Nat ⊕ (Nat × zL)))) (s : zS) : Bool := zrun (zstep mi_P D W false [] [] (fun d y as t en => zcal W d y as t en cts)) (fun s => ([] : List zTg).any (zstg s) || zfinU np bd pre ps s) 3000 [s]
theorem zenu {S : Nat × (Nat → Int32)} {D : Nat} {W : zW} {h : mH} {r : List Int} {bd : zBd} {pre : zT} {ps : List (zPo × List (Nat ⊕ (Nat × zL)))} {s : zS} {fs : List (Nat × mF)} {cts : List zCt} (hrun : zenu? D W cts r.length bd pre ps s = true) (hc : ∀ ct ∈ cts, zCtr mi_P S zTt ct) (hR : zRS (fun k => zsm W h k) r s fs h) : zKK mi_P S D (zEu W h r bd ps) fs h := by
  have hJ : ∀ h1 h2, zsm W h h1 → zsm W h1 h2 → zsm W h h2 := fun h1 h2 q z => zsm_tr q z (fun _ _ z => z)
  refine zseg (tg := []) (fin := zfinU r.length bd pre ps) hJ (zclT (W := W) hJ (fun _ _ z => z) hc) hrun hR (fun F hF => by cases hF) (fun s hs r1 fs h' hR => ?_)
  unfold zfinU at hs
  rw [Bool.and_eq_true] at hs
  exact zfinQ hs.1 hR (fun x _ q => ⟨hR.2.2.2, zHp_T hR.2.2.1 hs.2 hR.2.1, q⟩)
def zf0 (m pc : Nat) (fs : List (Nat × mF)) : Prop := ∃ l0 : List (Nat × Value), fs = [(m, (pc, l0, []))] ∧ mi_lg l0 0 = some (.ref 469)
theorem zf0_to {m pc : Nat} {r : List Int} {fs : List (Nat × mF)} (h : zf0 m pc fs) : zFs r [(m, pc, [(0, .inr (.inl 469))], [])] fs := by
  obtain ⟨l0, rfl, h0⟩ := h
  refine ⟨l0, [], [], rfl, ?_, rfl, rfl⟩
  intro q hq
  rw [List.mem_singleton.mp hq]
  exact ⟨_, h0, rfl⟩
theorem zf0_of {m pc : Nat} {r : List Int} {fs : List (Nat × mF)} (h : zFs r [(m, pc, [(0, .inr (.inl 469))], [])] fs) : zf0 m pc fs := by
  obtain ⟨l0, st0, fs', rfl, hl, hst, hfr⟩ := h
  have hst : st0 = [] := hst
  have hfr : fs' = [] := hfr
  subst hst
  subst hfr
  obtain ⟨y, b1, b2⟩ := hl _ (List.mem_cons_self ..)
  have b2 : y = .ref 469 := b2
  exact ⟨l0, rfl, by rw [b1, b2]⟩
theorem zT10 {h : mH} (hT : zHp [] zT1 h) : zHp [] zT0 h := zHp_T (zEn_mk zB_nil zFa_nil) (by decide +kernel) hT
noncomputable def zh0 : zS := ([(170, 0, [(0, .inr (.inl 469))], [])], zads zT1 [(469, 73, zK 2, .inl (zX 0))], [(0, 1600)], [], [])
def zhS : zSt0 := [(469, 73, zK 3, .inl (zX 0)), (469, 73, zK 4, .inl (zK 0))]
def zhLc : List (Nat × zV) := [(1, .inl (zX 1)), (0, .inr (.inl 469))]
noncomputable def zhL : zS := ([(170, 12, zhLc, [])], zads zT1 zhS, [(0, 1600), (0, 1600)], [], [])
noncomputable def zhL1 : zS := ([(170, 12, zhLc, [])], zads zT1 zhS, [(0, 1600), (0, 1599)], [(1, [(0, -1), (1, 1)])], [])
def zhSX (c : Int) : zSt0 := [(469, 73, zK 3, .inl (zX 0)), (469, 73, zK 4, .inl (zK 0)), (469, 73, zK 34, .inl (zK c)), (479, 2, zK c, .inl (zX 2))]
noncomputable def zhX (c : Int) : zS := ([(170, 12, zhLc, [])], zads zT1 (zhSX c), [(0, 1600), (0, 1600), (0, 4)], [(0, [(0, 1), (1, -1)])], [])
def zhSA (c : Int) : zSt0 := [(469, 73, zK 34, .inl (zK c)), (469, 73, zK 35, .inl (zK (1 - c))), (469, 73, zK 36, .inl (zK (560 * (1 - c)))), (479, 2, zK (1 - c), .inl (zK 0)), (479, 2, zK c, .inl (zX 2)), (481, 2, zK (1 - c), .inl (zK 0)), (469, 73, zK 4, .inl (zK 0)), (469, 73, zK 3, .inl (zX 0)), (469, 73, zK 8, .inr (.inr (.inr (.inl (1, 5))))), (469, 73, zK 6, .inl (zX 3)), (469, 73, zK 7, .inl (zX 4))]
def zhSB (c : Int) : zSt0 := [(469, 73, zK 34, .inl (zK c)), (469, 73, zK 35, .inl (zK (1 - c))), (469, 73, zK 36, .inl (zK (560 * (1 - c)))), (479, 2, zK (1 - c), .inl (zK 0)), (479, 2, zK c, .inl (zX 2)), (481, 2, zK (1 - c), .inl (zK 0)), (469, 73, zK 4, .inl (zK 0)), (469, 73, zK 3, .inl (zX 0)), (469, 73, zK 8, .inl (zK 0)), (469, 73, zK 6, .inl (zX 0)), (469, 73, zK 7, .inl (zX 0))]
noncomputable def zhA (c : Int) : zS := ([(170, 42, [(0, .inr (.inl 469))], [])], zads zT1 (zhSA c), [(0, 1600), (0, 1600), (0, 4), (0, 1600), (0, 1600)], [(1, [(3, 1), (4, -1)]), (0, [(0, -1), (4, 1)])], [])
noncomputable def zhB (c : Int) : zS := ([(170, 42, [(0, .inr (.inl 469))], [])], zads zT1 (zhSB c), [(0, 1600), (0, 1600), (0, 4)], [], [])
noncomputable def zhR (F : List zTg) (s : zS) : Bool := zrun (zstep mi_P 10 zhW false [] [] (fun d y as t en => zcal zhW d y as t en [zc_3003])) (fun s => F.any (zstg s) || znF s) 2000 [s]
theorem zh_1 : zhR [(zhL, [zX 0, zK 0], [])] zh0 = true := by decide +kernel
theorem zh_2 : zhR [(zhL, [zX 0, (1, [(1, 1)])], [])] zhL1 = true := by decide +kernel
noncomputable def zhTg (c : Int) : List zTg := [(zhA c, [zX 0, zX 1, zX 2], [.inr (.inr (469, zK 6)), .inr (.inr (469, zK 7))]), (zhB c, [zX 0, zX 1, zX 2], [])]
noncomputable def zhk (c : Int) : Bool := zhR (zhTg c) (zhX c) && (zadc zT1 (zhSX c) && (ztle ((zhA c).2.2.1, (zhA c).2.2.2.1, []) [] (zhA c).2.1 zT1 && (ztle ((zhB c).2.2.1, [], []) [] (zhB c).2.1 zT1 &&
  ((zchk (zhA c).2.1 469 (zK 35) (zK (1 - c)) && (zchk (zhA c).2.1 469 (zK 36) (zK (560 * (1 - c))) && (zchk (zhA c).2.1 479 (zK (1 - c)) (zK 0) && (zchk (zhA c).2.1 479 (zK c) (zX 2) && (zchk (zhA c).2.1 481 (zK (1 - c)) (zK 0) && (zchk (zhA c).2.1 469 (zK 4) (zK 0) && (zchk (zhA c).2.1 469 (zK 3) (zX 0) && (zchb (zhA c).2.1 469 (zK 8) 1 5 && (zchk (zhA c).2.1 469 (zK 6) (zX 3) && (zchk (zhA c).2.1 469 (zK 7) (zX 4) && (Nat.beq (zlen (zhA c).2.1 469) 73 && zchk (zhA c).2.1 469 (zK 34) (zK c)))))))))))) &&
  (zchk (zhB c).2.1 469 (zK 35) (zK (1 - c)) && (zchk (zhB c).2.1 469 (zK 36) (zK (560 * (1 - c))) && (zchk (zhB c).2.1 479 (zK (1 - c)) (zK 0) && (zchk (zhB c).2.1 479 (zK c) (zX 2) && (zchk (zhB c).2.1 481 (zK (1 - c)) (zK 0) && (zchk (zhB c).2.1 469 (zK 4) (zK 0) && (zchk (zhB c).2.1 469 (zK 3) (zX 0) && (zchk (zhB c).2.1 469 (zK 8) (zK 0) && (zchk (zhB c).2.1 469 (zK 6) (zX 0) && (zchk (zhB c).2.1 469 (zK 7) (zX 0) && zchk (zhB c).2.1 469 (zK 34) (zK c)))))))))))))))
theorem zhk_0 : zhk 0 = true := by decide +kernel
theorem zhk_1 : zhk 1 = true := by decide +kernel
theorem zh_c0 : zadc zT1 [(469, 73, zK 2, .inl (zX 0))] = true := by decide +kernel
theorem zh_cL : zadc zT1 zhS = true := by decide +kernel
theorem zh_tL : ztle ([(0, 1600), (0, 1600)], [], []) [] (zads zT1 zhS) zT1 = true := by decide +kernel
/-- the ends -/
noncomputable def zhXF : zS := ([(170, 42, [(0, .inr (.inl 469))], [])], zads zT1 [(469, 73, zK 4, .inr (.inr (.inr (.inl (1, 4)))))], [], [], [])
def zhqF : zPo := ([], [], [], some zaI)
theorem zh_cF : zadc zT1 [(469, 73, zK 4, .inr (.inr (.inr (.inl (1, 4)))))] = true := by decide +kernel
theorem zh_F : zenu? 10 zW0 [] 0 [] zT1 [(zhqF, [])] zhXF = true := by decide +kernel
def zhSx : zSt0 := [(469, 73, zK 4, .inl (zK 0)), (469, 73, zK 8, .inl (zK 0)), (469, 73, zK 35, .inl (zX 0))]
noncomputable def zhXB : zS := ([(170, 42, [(0, .inr (.inl 469))], [])], zads zT1 zhSx, [(0, 1)], [], [])
def zhqB : zPo := ([], [], [(469, [(zK 34, .inl (zX 0)), (zK 53, .inl (zK 0)), (zK 54, .inl (zK 0))])], some zaI)
theorem zh_cB : zadc zT1 zhSx = true := by decide +kernel
theorem zh_B : zenu? 10 zhWX [zc_3201] 1 [(0, 1)] zT1 [(zhqB, [])] zhXB = true := by decide +kernel
/-- a line -/
def zhSl (b : Int) : zSt0 := [(469, 73, zK 4, .inl (zK 0)), (469, 73, zK 8, .inr (.inr (.inr (.inl (1, 5))))), (469, 73, zK 6, .inl (zX 0)), (469, 73, zK 7, .inl (zX 1)), (469, 73, zK 3, .inl (zX 2)), (469, 73, zK 35, .inl (zK b))]
noncomputable def zhl0 (b : Int) : zS := ([(170, 42, [(0, .inr (.inl 469))], [])], zads zT1 (zhSl b), zyb, zuF, [])
noncomputable def zhl1 (b : Int) : zS := ([(170, 49, [(0, .inr (.inl 469))], [.inr (.inl 469)])], zads zT1 (zhSl b), zyb, zuF, [])
noncomputable def zhl2 : zS := ([(170, 42, [(0, .inr (.inl 469))], [])], zT1, [], [], [])
noncomputable def zhlk (b : Int) (ct : zCt) : Bool := zrun (zstep mi_P 10 zW0 false [] [] znC) (fun s => ([(zhl1 b, [zX 0, zX 1, zX 2], [])] : List zTg).any (zstg s) || znF s) 300 [zhl0 b] && (zadc zT1 (zhSl b) && (zhcb mi_P 10 ct.1 [.inr (.inl 469)] [] (zads zT1 (zhSl b)) && ((match zap ct.2.2.2.2.2.2.1 (zyb, zuF, []) (zads zT1 (zhSl b)) (([.inr (.inl 469)] : List zV).take (mi_P.get ct.1).2.1).reverse ct with
    | some q => q.all (fun w => zrun (zstep mi_P 10 zW0 false [] [] znC) (fun s => ([(zhl2, [], [])] : List zTg).any (zstg s) || znF s) 50 [((170, 49 + 1, [(0, .inr (.inl 469))], w.1.toList ++ ([.inr (.inl 469)] : List zV).drop (mi_P.get ct.1).2.1) :: [], w.2.1, w.2.2)])
    | none => false) && (zwle ct.2.2.2.2.2.2.1 zhWA && (zwin ct.2.2.2.2.2.2.1 ct.2.2.2.2.2.1 && (zchk ct.2.2.2.2.2.1 469 (zK 6) (zX 0) && (zchk ct.2.2.2.2.2.1 469 (zK 7) (zX 1) && (zchk ct.2.2.2.2.2.1 469 (zK 3) (zX 2) && !(zw ct.2.2.2.2.2.2.1 469 3)))))))))
theorem zhlk_0 : zhlk 0 zc_3113 = true := by decide +kernel
theorem zhlk_1 : zhlk 1 zc_3114 = true := by decide +kernel
theorem zhl_p : (zpwb zq_3113_0.2.2.1 469 (zK 4) 1 4 && (zpwk zq_3113_1.2.2.1 469 (zK 4) (zK 0) && (zpwk zq_3113_1.2.2.1 469 (zK 6) (zX 3) && (zpwk zq_3113_1.2.2.1 469 (zK 7) (zX 4) && (zpwb zq_3113_1.2.2.1 469 (zK 8) 1 5 && (zpwk zq_3113_2.2.2.1 469 (zK 4) (zK 0) && (zpwk zq_3113_2.2.2.1 469 (zK 6) (zX 2) && (zpwk zq_3113_2.2.2.1 469 (zK 7) (zX 2) && zpwk zq_3113_2.2.2.1 469 (zK 8) (zK 0))))))))) = true := by decide +kernel
/-- behind a line: a fault, or on -/
def zhalt (h h' : mH) : Prop := (1 ≤ zI h' 469 4 ∧ zI h' 469 4 ≤ 4) ∨ (zI h' 469 4 = 0 ∧ (zTA h' ∧ zI h 469 7 < zI h' 469 7 ∨ zTB h'))
theorem zhline {S : Nat × (Nat → Int32)} {b : Int} {ct : zCt} {h : mH} {xs : List Value} {rc : List Int} (hct : zCtr mi_P S zOm2 ct) (hk : zhlk b ct = true) (h2 : ct.2.1 ≤ 9) (h4 : ct.2.2.2.1 = zyb) (hps : ct.2.2.2.2.2.2.2.2 = [zq_3113_0, zq_3113_1, zq_3113_2]) (hf1 : zq_3113_1.1 = [(0, 1600), (0, 1600)]) (hf2 : zq_3113_1.2.1 = [(1, [(3, 1), (4, -1)]), (0, [(2, -1), (4, 1)]), (1, [(1, 1), (4, -1)])]) (hT : zHp [] zT0 h) (hO : zOm2 h) (hB : zB ct.2.2.2.1 rc) (hF : zFa ct.2.2.2.2.1 rc) (hA : zAr rc ct.2.2.1 xs) (hH : zHp rc ct.2.2.2.2.2.1 h) (hs : zI h 469 3 ≤ 1600) : mi_T mi_P S 9 ct.1 (0, mi_ent 0 xs, []) h (fun x h' => zQo ct.2.2.2.1 ct.2.2.2.2.2.2.1 ct.2.2.2.2.2.1 ct.2.2.2.2.2.2.2.2 rc h x h' ∧ (zOm2 h' ∧ zhalt h h')) := by
  unfold zhlk at hk
  simp only [Bool.and_eq_true] at hk
  obtain ⟨-, -, -, -, -, -, c1, c2, c3, c4⟩ := hk
  have c4 : zw ct.2.2.2.2.2.2.1 469 3 = false := by simpa using c4
  refine mi_T_mono (hct.2 9 h2 rc xs h hO hB hF hA hH) ?_
  rintro x h' ⟨q, hO'⟩
  refine ⟨q, hO', ?_⟩
  obtain ⟨hsm, -, po, hpo, s, pB, pF, pw, -⟩ := q
  rw [h4] at hB pB
  obtain ⟨x0, r1, rfl, p0, p1, hB1⟩ := zB_uncons hB
  obtain ⟨x1, r2, rfl, p2, p3, hB2⟩ := zB_uncons hB1
  obtain ⟨x2, r3, rfl, p4, p5, hB3⟩ := zB_uncons hB2
  have := zB_unnil hB3
  subst this
  have e7 : zI h 469 7 = x1 := zI_ck hH c2 zE_K (zE_X rfl)
  have e3 : zI h 469 3 = x2 := zI_ck hH c3 zE_K (zE_X rfl)
  have e3' : zI h' 469 3 = zI h 469 3 := zI_smf (j := 3) hsm (zT0_obj hT) c4
  have ck := zhl_p
  simp only [Bool.and_eq_true] at ck
  obtain ⟨d1, d2, d3, d4, d5, d6, d7, d8, d9⟩ := ck
  rw [hps] at hpo
  simp only [List.mem_cons, List.not_mem_nil, or_false] at hpo
  rcases hpo with rfl | rfl | rfl
  · exact Or.inl (zPw_cb pw d1 zE_K)
  · rw [hf1] at pB
    rw [hf2] at pF
    have pB : zB [(0, 1600), (0, 1600)] s := zB_tail (bd := zyb) (r := [x0, x1, x2]) rfl pB
    obtain ⟨y1, s1, rfl, y2, y3, pB⟩ := zB_uncons pB
    obtain ⟨z1, s2, rfl, z2, z3, pB⟩ := zB_uncons pB
    have := zB_unnil pB
    subst this
    have u1 := zFa_hd pF (zE_2 rfl rfl)
    have u2 := zFa_hd (zFa_tl pF) (zE_2 rfl rfl)
    have u3 := zFa_hd (zFa_tl (zFa_tl pF)) (zE_2 rfl rfl)
    have w4 := zPw_ck pw d2 zE_K zE_K
    have w6 := zPw_ck pw d3 zE_K (zE_X rfl)
    have w7 := zPw_ck pw d4 zE_K (zE_X rfl)
    have w8 := zPw_cb pw d5 zE_K
    exact Or.inr ⟨w4, Or.inl ⟨⟨w8.1, w8.2, by omega, by omega, by omega, by omega⟩, by omega⟩⟩
  · have w4 := zPw_ck pw d6 zE_K zE_K
    have w6 := zPw_ck pw d7 zE_K (zE_mono s (zE_X rfl))
    have w7 := zPw_ck pw d8 zE_K (zE_mono s (zE_X rfl))
    have w8 := zPw_ck pw d9 zE_K zE_K
    exact Or.inr ⟨w4, Or.inr ⟨w8, by omega, by omega, by omega, by omega⟩⟩
