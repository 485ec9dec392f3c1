/-! behindUnit(), by hand: all joints that are taken off; what comes then -/
def zWp : zW := .branch 490 (.leaf (470, [36, 37, 38])) (.branch 491 (.leaf (491, [0])) (.leaf (492, [0])))
def zPi (b n0 : Int) (h0 h : mH) : Prop := zHp [] zT0 h ∧ zGp 0 b n0 h ∧ zsm zWp h0 h ∧ ∀ j : Int, 0 ≤ j → j < 1120 → (j < n0 ∨ 560 * b + 560 ≤ j) → zI h 490 j = zI h0 490 j
theorem zpops {S : Nat × (Nat → Int32)} {Q : Option Value → mH → Prop} {h0 : mH} {b n0 p : Int} (hb : b = 0 ∨ b = 1) (r1 : 0 ≤ p) (r2 : p ≤ 6) (tail : ∀ h fs, zPi b n0 h0 h → zf13 p fs → (6 < zI h 492 (zI h 469 38 - 1) ∨ zI h 492 (zI h 469 38 - 1) < p) → zKK mi_P S 4 Q fs h) : ∀ (k : Nat) (h : mH) (fs : List (Nat × mF)), zI h 469 38 = k + 1 → zPi b n0 h0 h → zf13 p fs → zKK mi_P S 4 Q fs h := by
  intro k
  induction k with
  | zero =>
    intro h fs hk hP hfs
    refine tail h fs hP hfs (Or.inl ?_)
    obtain ⟨-, ⟨k', N, nb, nn, nr, H, g1, g2, -⟩, -⟩ := hP
    rw [hk]
    show 6 < zI h 492 0
    omega
  | succ k ih =>
    intro h fs hk hP hfs
    by_cases hc : zI h 492 (zI h 469 38 - 1) ≤ 6 ∧ p ≤ zI h 492 (zI h 469 38 - 1)
    · have hP0 := hP
      obtain ⟨hT, hG, hsm, hcd⟩ := hP
      have hbb := zGp_b hb (Or.inl rfl) hG
      obtain ⟨b1, b2, b3, b4, b5, b6, b7, b8, b9, b10, b11⟩ := hbb
      obtain ⟨k', N, nb, nn, nr, H, g1, g2, g3, g4, g5, g6, g7, g8, g9, g10, g11, g12, g13, -, g15⟩ := hG
      have g15 := g15 rfl
      have ek : k' = k + 1 := by omega
      subst ek
      have ei : zI h 469 38 - 1 = (k : Int) + 1 := by omega
      have ho := zT0_obj hT
      -- what is so behind one
      have next : ∀ {lo hi wl dw : Int} {nb' nn' H' : Int}, (zpk1 lo hi wl dw && (zpk2 lo hi wl dw && zpk3 lo hi wl dw)) = true → lo ≤ zI h 492 ((k : Int) + 1) → zI h 492 ((k : Int) + 1) ≤ hi → wl ≤ zI h 469 37 → zpl (zI h 492) (zI h 493) k nb' nn' nr → nn' + nr = zI h 469 37 + dw → dw ≤ 0 → zstk (zI h 493 ((k : Int) + 1)) H H' → H' = nb' + 1 → H' ≤ H → nb' + nn' + 1 = nb + nn → zKK mi_P S 4 Q fs h := by
        intro lo hi wl dw nb' nn' H' hkk t1 t2 w1 hpl hw hdw hst hH hHH hsum
        refine zpop1 (p := p) hkk hT (by omega) b2 b3 (by omega) w1 b10 (by rw [ei]; exact t1) (by rw [ei]; exact t2) r1 r2 hc.2 hfs ?_
        rintro h2 fs2 hT2 hfs2 ⟨h1, s1, s2⟩ e38 e36 e37 e490 ecd
        have ho1 := zobj_sm s1 ho
        have e492 : zI h2 492 = zI h 492 := (funext (zI_sm s2 (by decide +kernel))).trans (funext (zI_sm s1 (by decide +kernel)))
        have e493 : zI h2 493 = zI h 493 := (funext (zI_sm s2 (by decide +kernel))).trans (funext (zI_sm s1 (by decide +kernel)))
        have e481 : zI h2 481 = zI h 481 := (funext (zI_sm s2 (by decide +kernel))).trans (funext (zI_sm s1 (by decide +kernel)))
        have e39 : zI h2 469 39 = zI h 469 39 := (zI_smf (j := 39) s2 ho1 (by decide +kernel)).trans (zI_smf (j := 39) s1 ho (by decide +kernel))
        have hh : zhg (zI h2 490) n0 N H := zhg_eq (fun j a c => ecd j (by omega) (by omega) (by omega)) g7
        rw [ei] at e490
        refine ih h2 fs2 (by omega) ⟨hT2, ⟨k, N + 1, nb', nn', nr, H', by omega, by rw [e492]; exact g2, by rw [e492, e493]; exact hpl, by omega, by omega, by rw [e36, g6]; omega, ⟨H, hh, ?_⟩, by omega, by rw [e39]; omega, by rw [e39]; omega, by rw [e481]; omega, by rw [e481]; omega, g13, fun q => by omega, fun _ => by rw [e481]; omega⟩, ?_, ?_⟩ hfs2
        · rw [← g6, e490]
          exact hst
        · exact zsm_tr hsm (zsm_tr (zsm_tr (W := zWp) zsm_rf s1 (zwle_ok (by decide +kernel))) s2 (zwle_ok (by decide +kernel))) (fun _ _ z => z)
        · intro j j0 j1 j2
          rw [ecd j j0 j1 (by omega)]
          exact hcd j j0 j1 j2
      rw [ei] at hc
      rcases g3 with ⟨c1, c2, c3⟩ | ⟨c1, c2, c3⟩ | ⟨c1, c3⟩
      · have pb := zpl_b c3
        have hst : zstk (zI h 493 ((k : Int) + 1)) H (H - 1) := Or.inr (Or.inr ⟨c2.1, c2.2, by omega, rfl⟩)
        rcases (show zI h 492 ((k : Int) + 1) ≤ 2 ∨ 4 ≤ zI h 492 ((k : Int) + 1) by rcases c1 with c | c | c | c | c <;> omega) with q | q
        · exact next zpk_a (by rcases c1 with c | c | c | c | c <;> omega) q (by omega) c3 (by omega) (by omega) hst (by omega) (by omega) (by omega)
        · exact next zpk_c q hc.1 (by omega) c3 (by omega) (by omega) hst (by omega) (by omega) (by omega)
      · have pb := zpl_b c3
        have hst : zstk (zI h 493 ((k : Int) + 1)) H H := Or.inl ⟨c2, by omega, rfl⟩
        exact next zpk_b (by omega) (by omega) (by omega) c3 (by omega) (by omega) hst (by omega) (by omega) (by omega)
      · omega
    · refine tail h fs hP hfs ?_
      rcases (by omega : 6 < zI h 492 (zI h 469 38 - 1) ∨ zI h 492 (zI h 469 38 - 1) < p) with q | q
      · exact Or.inl q
      · exact Or.inr q
/-! the ends of the method -/
noncomputable def zfinT (np : Nat) (bd : zBd) (pre : zT) (ps : List (zPo × List (Nat ⊕ (Nat × zL)))) (s : zS) : Bool := zfin mi_P np bd pre ps s && ztle s.2.2 [] s.2.1 zT0
def zEd (W : zW) (h : mH) (r : List Int) (bd : zBd) (ps : List (zPo × List (Nat ⊕ (Nat × zL)))) (x : Option Value) (h' : mH) : Prop := zsm W h h' ∧ zHp [] zT0 h' ∧ ∃ po ∈ ps.map (fun p => p.1), ∃ s, zB (bd ++ po.1) (r ++ s) ∧ zFa po.2.1 (r ++ s) ∧ zPw (r ++ s) po.2.2.1 h' ∧ zRt (r ++ s) po.2.2.2 x
theorem zfinT_ok {S : Nat × (Nat → Int32)} {D : Nat} {W : zW} {h : mH} {r r1 : List Int} {bd : zBd} {pre : zT} {ps : List (zPo × List (Nat ⊕ (Nat × zL)))} {s : zS} {fs : List (Nat × mF)} {h' : mH} (hf : zfinT r.length bd pre ps s = true) (hR : zRS (fun k => zsm W h k) (r ++ r1) s fs h') : zKK mi_P S D (zEd W h r bd ps) fs h' := by
  unfold zfinT at hf
  rw [Bool.and_eq_true] at hf
  exact zfinQ hf.1 hR (fun x _ q => ⟨hR.2.2.2, zHp_T hR.2.2.1 hf.2 hR.2.1, q⟩)
noncomputable def zend? (D : Nat) (W : zW) (cts : List zCt) (np : Nat) (bd : zBd) (pre : zT) (ps : List (zPo × List (Nat ⊕ (Nat × zL)))) (s : zS) : Bool := zrun (zstep mi_P D W false [] [] (fun d y as t en => zcal W d y as t en cts)) (fun s => ([] : List zTg).any (zstg s) || zfinT np bd pre ps s) 3000 [s]
theorem zend {S : Nat × (Nat → Int32)} {D : Nat} {W : zW} {h : mH} {r : List Int} {bd : zBd} {pre : zT} {ps : List (zPo × List (Nat ⊕ (Nat × zL)))} {s : zS} {fs : List (Nat × mF)} {cts : List zCt} (hrun : zend? D W cts r.length bd pre ps s = true) (hc : ∀ ct ∈ cts, zCtr mi_P S zTt ct) (hR : zRS (fun k => zsm W h k) r s fs h) : zKK mi_P S D (zEd W h r bd ps) fs h := by
  have hJ : ∀ h1 h2, zsm W h h1 → zsm W h1 h2 → zsm W h h2 := fun h1 h2 q z => zsm_tr q z (fun _ _ z => z)
  exact zseg (tg := []) (fin := zfinT r.length bd pre ps) hJ (zclT (W := W) hJ (fun _ _ z => z) hc) hrun hR (fun F hF => by cases hF) (fun s hs r1 fs h' hR => zfinT_ok hs hR)
/-! where a token stands -/
def zaS : zSt0 := [(471, 1600, zX 0, .inl (zX 9)), (492, 90, zK 0, .inl (zK 8))]
noncomputable def zaT : zT := zads zuT zaS
theorem za_c : zadc zuT zaS = true := by decide +kernel
def zaR (h : mH) : List Int := zuR h ++ [zI h 471 (zI h 469 6)]
theorem zT_t {h : mH} (hT : zHp [] zT0 h) {j : Int} (h0 : 0 ≤ j) (h1 : j < 1600) : -128 ≤ zI h 471 j ∧ zI h 471 j ≤ 127 := zT_b hT (n := 1600) (by decide +kernel) (by decide +kernel) h0 h1 (by decide +kernel)
theorem za_H {h : mH} (r : List Int) (hT : zHp [] zT0 h) (hA : zTA h) (hf : zI h 469 4 = 0) (hb : zI h 469 35 = 0 ∨ zI h 469 35 = 1) (h8 : zI h 492 0 = 8) : zHp (zuR h ++ ([zI h 471 (zI h 469 6)] ++ r)) zaT h := by
  obtain ⟨a1, a2, a3, a4, a5, a6⟩ := id hA
  exact zads_ok (sp := zaS) (zu_H ([zI h 471 (zI h 469 6)] ++ r) hT hA hf hb) za_c ⟨⟨zI h 469 6, zE_X rfl, by omega, by omega, zE_X rfl⟩, ⟨0, zE_K, by omega, by omega, by rw [h8]; exact zE_K⟩, trivial⟩
/-- a joint here -/
def ztS : zSt0 := [(492, 90, (-1, [(4, 1)]), .inl (zX 10)), (492, 90, zX 11, .inl (zX 12)), (493, 90, zX 13, .inl (zX 14))]
theorem zt_c : zadc zaT ztS = true := by decide +kernel
def ztB (slo shi lo hi : Int) : zBd := [(slo, shi), (lo, hi), (0, 89), (0, 8), (0, 89), (-2147483648, 2147483647)]
noncomputable def ztA (rk slo shi lo hi : Int) : zS := ([(195, 13, [(1, .inl (zK rk)), (0, .inr (.inl 469))], [])], zads zaT ztS, zuB ++ ztB slo shi lo hi, zuF ++ [(1, [(0, 1), (2, -1)]), (1, [(4, -1), (11, 1)]), (1, [(4, -1), (13, 1)])], [])
def ztW : zW := .branch 492 (.leaf (470, [6, 7, 8, 9, 10, 38])) (.branch 493 (.leaf (493, [0])) (.leaf (494, [0])))
def zqA (rk : Int) (sg : zL) : zPo := ([(0, 1600), (0, 1600)], [(1, [(15, 1), (16, -1)]), (0, [(2, -1), (16, 1)]), (0, [(1, 1), (15, -1)])], [(469, [(zK 38, .inl (1, [(4, 1)])), (zK 8, .inr (.inr (.inr (.inl (1, 5))))), (zK 6, .inl (zX 15)), (zK 7, .inl (zX 16))]), (492, [(zX 4, .inl (zK rk)), (zX 11, .inl (zX 12))]), (493, [(zX 4, .inl sg), (zX 13, .inl (zX 14))])], some (.inl (zK 1)))
def zqB (rk : Int) (sg : zL) : zPo := ([], [], [(469, [(zK 38, .inl (1, [(4, 1)])), (zK 8, .inl (zK 0)), (zK 6, .inl (zX 2)), (zK 7, .inl (zX 2))]), (492, [(zX 4, .inl (zK rk)), (zX 11, .inl (zX 12))]), (493, [(zX 4, .inl sg), (zX 13, .inl (zX 14))])], some (.inl (zK 1)))
def ztP (rk : Int) (sg : zL) : List (zPo × List (Nat ⊕ (Nat × zL))) := [(zqA rk sg, [.inr (469, zK 6), .inr (469, zK 7)]), (zqB rk sg, [])]
noncomputable def ztk (rk slo shi lo hi : Int) (sg : zL) : Bool := zend? 4 ztW [zc_3003] 15 (zuB ++ ztB slo shi lo hi) (zads zaT ztS) (ztP rk sg) (ztA rk slo shi lo hi) && ((zpwk (zqA rk sg).2.2.1 492 (zX 4) (zK rk) && (zpwk (zqA rk sg).2.2.1 493 (zX 4) sg && (zpwk (zqA rk sg).2.2.1 492 (zX 11) (zX 12) && (zpwk (zqA rk sg).2.2.1 493 (zX 13) (zX 14) && (zpwk (zqA rk sg).2.2.1 469 (zK 38) (1, [(4, 1)]) && (zpwk (zqA rk sg).2.2.1 469 (zK 6) (zX 15) && (zpwk (zqA rk sg).2.2.1 469 (zK 7) (zX 16) && zpwb (zqA rk sg).2.2.1 469 (zK 8) 1 5))))))) &&
  (zpwk (zqB rk sg).2.2.1 492 (zX 4) (zK rk) && (zpwk (zqB rk sg).2.2.1 493 (zX 4) sg && (zpwk (zqB rk sg).2.2.1 492 (zX 11) (zX 12) && (zpwk (zqB rk sg).2.2.1 493 (zX 13) (zX 14) && (zpwk (zqB rk sg).2.2.1 469 (zK 38) (1, [(4, 1)]) && (zpwk (zqB rk sg).2.2.1 469 (zK 6) (zX 2) && (zpwk (zqB rk sg).2.2.1 469 (zK 7) (zX 2) && zpwk (zqB rk sg).2.2.1 469 (zK 8) (zK 0)))))))))
theorem ztk_1a : ztk 1 (-128) 127 7 8 (zK 124) = true := by decide +kernel
theorem ztk_1b : ztk 1 (-128) 127 0 0 (zK 124) = true := by decide +kernel
theorem ztk_2a : ztk 2 (-128) 127 7 8 (zK 38) = true := by decide +kernel
theorem ztk_2b : ztk 2 (-128) 127 0 1 (zK 38) = true := by decide +kernel
theorem ztk_4a : ztk 4 60 62 7 8 (zX 9) = true := by decide +kernel
theorem ztk_4b : ztk 4 60 62 0 3 (zX 9) = true := by decide +kernel
theorem ztk_5a : ztk 5 43 45 7 8 (zX 9) = true := by decide +kernel
theorem ztk_5b : ztk 5 43 45 0 4 (zX 9) = true := by decide +kernel
theorem ztk_6a : ztk 6 37 47 7 8 (zX 9) = true := by decide +kernel
theorem ztk_6b : ztk 6 37 47 0 5 (zX 9) = true := by decide +kernel
