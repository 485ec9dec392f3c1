/-! behindUnit(), whole -/
noncomputable def zGpw (W : zW) : Bool := !(zw W 469 36) && (!(zw W 469 37) && (!(zw W 469 38) && (!(zw W 469 39) && ((zjs W 481).isEmpty && ((zjs W 490).isEmpty && ((zjs W 492).isEmpty && (zjs W 493).isEmpty))))))
theorem zGp_sm {W : zW} {h h' : mH} {w b n0 : Int} (hw : zGpw W = true) (ho : zobj h 469) (hs : zsm W h h') (hG : zGp w b n0 h) : zGp w b n0 h' := by
  unfold zGpw at hw
  simp only [Bool.and_eq_true, List.isEmpty_iff, Bool.not_eq_true'] at hw
  obtain ⟨w1, w2, w3, w4, w5, w6, w7, w8⟩ := hw
  have e1 : zI h' 469 36 = zI h 469 36 := zI_smf (j := 36) hs ho w1
  have e2 : zI h' 469 37 = zI h 469 37 := zI_smf (j := 37) hs ho w2
  have e3 : zI h' 469 38 = zI h 469 38 := zI_smf (j := 38) hs ho w3
  have e4 : zI h' 469 39 = zI h 469 39 := zI_smf (j := 39) hs ho w4
  have e5 : zI h' 481 = zI h 481 := funext (zI_sm hs w5)
  have e6 : zI h' 490 = zI h 490 := funext (zI_sm hs w6)
  have e7 : zI h' 492 = zI h 492 := funext (zI_sm hs w7)
  have e8 : zI h' 493 = zI h 493 := funext (zI_sm hs w8)
  unfold zGp at hG ⊢
  rw [e1, e2, e3, e4, e5, e6, e7, e8]
  exact hG
noncomputable def zTAw (W : zW) : Bool := !(zw W 469 3) && (!(zw W 469 6) && (!(zw W 469 7) && !(zw W 469 8)))
theorem zTA_sm {W : zW} {h h' : mH} (hw : zTAw W = true) (ho : zobj h 469) (hs : zsm W h h') : zI h' 469 3 = zI h 469 3 ∧ zI h' 469 6 = zI h 469 6 ∧ zI h' 469 7 = zI h 469 7 ∧ zI h' 469 8 = zI h 469 8 := by
  unfold zTAw at hw
  simp only [Bool.and_eq_true, Bool.not_eq_true'] at hw
  obtain ⟨w1, w2, w3, w4⟩ := hw
  exact ⟨zI_smf (j := 3) hs ho w1, zI_smf (j := 6) hs ho w2, zI_smf (j := 7) hs ho w3, zI_smf (j := 8) hs ho w4⟩
theorem zTA_eq {h h' : mH} (e : zI h' 469 3 = zI h 469 3 ∧ zI h' 469 6 = zI h 469 6 ∧ zI h' 469 7 = zI h 469 7 ∧ zI h' 469 8 = zI h 469 8) (hA : zTA h) : zTA h' := by
  unfold zTA at hA ⊢
  rw [e.1, e.2.1, e.2.2.1, e.2.2.2]
  exact hA
theorem zTB_eq {h h' : mH} (e : zI h' 469 3 = zI h 469 3 ∧ zI h' 469 6 = zI h 469 6 ∧ zI h' 469 7 = zI h 469 7 ∧ zI h' 469 8 = zI h 469 8) (hA : zTB h) : zTB h' := by
  unfold zTB at hA ⊢
  rw [e.1, e.2.1, e.2.2.1, e.2.2.2]
  exact hA
theorem zKs_mono {P : mP} {S : Nat × (Nat → Int32)} {D : Nat} {Q Q' : Option Value → mH → Prop} (hq : ∀ x h, Q x h → Q' x h) : ∀ (fs : List (Nat × mF)) (x : Option Value) (h : mH), zKs P S D Q fs x h → zKs P S D Q' fs x h
  | [], x, h, k => hq x h k
  | (m, f) :: fr, x, h, k => mi_T_mono k (fun x h' q => zKs_mono hq fr x h' q)
theorem zKK_mono {P : mP} {S : Nat × (Nat → Int32)} {D : Nat} {Q Q' : Option Value → mH → Prop} (hq : ∀ x h, Q x h → Q' x h) : ∀ {fs : List (Nat × mF)} {h : mH}, zKK P S D Q fs h → zKK P S D Q' fs h
  | [], h, k => k.elim
  | (m, f) :: fr, h, k => mi_T_mono k (fun x h' q => zKs_mono hq fr x h' q)
/-- a fault, and nothing else -/
theorem zfault {W : zW} {v w b n0 : Int} {h h' : mH} {x : Option Value} (hx : ∃ i : Int32, x = some (.int i)) (hb : b = 0 ∨ b = 1) (hw : w = 0 ∨ w = 1) (hG : zGp w b n0 h) (hT : zHp [] zT0 h) (hsm : zsm W h h') (hT' : zHp [] zT0 h') (k4 : 1 ≤ zI h' 469 4 ∧ zI h' 469 4 ≤ 4) (c1 : zw W 469 36 = false := by decide +kernel) (c2 : zjs W 490 = [] := by decide +kernel) (c3 : zwle W zWr = true := by decide +kernel) : zRp v b n0 h x h' := by
  have ho := zT0_obj hT
  have k36 : zI h' 469 36 = zI h 469 36 := zI_smf (j := 36) hsm ho c1
  have k490 : zI h' 490 = zI h 490 := funext (zI_sm hsm c2)
  have bb := zGp_b hb hw hG
  obtain ⟨k, N, nb, nn, nr, H, g1, g2, g3, g4, g5, g6, g7, g8⟩ := hG
  exact ⟨hT', ⟨zsm_tr zsm_rf hsm (zwle_ok c3), fun j _ _ _ => by rw [k490]⟩, Or.inl ⟨hx, k4.1, k4.2, N, H, by rw [k36]; exact g6, by rw [k490]; exact g7, by rw [k36]; exact bb.2.2.2.1⟩⟩
def zqF : zPo := ([], [], [(469, [(zK 4, .inr (.inr (.inr (.inl (1, 4)))))])], some (.inl (zK 1)))
noncomputable def zbE : zS := ([(195, 0, [(0, .inr (.inl 469))], [])], zaT, zuB ++ [(-128, 127)], zuF, [])
noncomputable def zbH (rk lo hi : Int) : zS := ([(195, 13, [(1, .inl (zK rk)), (0, .inr (.inl 469))], [])], zaT, zuB ++ [(lo, hi)], zuF, [])
def zi10 : List zL := [zX 0, zX 1, zX 2, zX 3, zX 4, zX 5, zX 6, zX 7, zX 8, zX 9]
noncomputable def zbTg : List zTg := [(zbH 0 (-128) 127, zi10, []), (zbH 1 (-128) 127, zi10, []), (zbH 2 (-128) 127, zi10, []), (zbH 4 60 62, zi10, []), (zbH 5 43 45, zi10, []), (zbH 6 37 47, zi10, [])]
def zbWf : zW := .leaf (470, [4, 5])
theorem zb_run : zrun (zstep mi_P 4 zbWf false [] [] (fun d y as t en => zcal zbWf d y as t en [zc_3010, zc_3018])) (fun s => zbTg.any (zstg s) || zfinT 10 (zuB ++ [(-128, 127)]) zaT [(zqF, [])] s) 3000 [zbE] = true := by decide +kernel
theorem zb_ck : zchk zaT 469 (zK 4) (zK 0) = true := by decide +kernel
theorem zbehA {S : Nat × (Nat → Int32)} {D : Nat} (hD : 4 ≤ D) {h : mH} {b n0 : Int} (hT : zHp [] zT0 h) (hA : zTA h) (hf : zI h 469 4 = 0) (hrb : zI h 469 35 = b) (hb : b = 0 ∨ b = 1) (hG : zGp 0 b n0 h) : mi_T mi_P S D 195 (0, mi_ent 0 [.ref 469], []) h (zRp 0 b n0 h) := by
  refine mi_T_d hD ?_
  subst hrb
  have hB := zu_B hA hb (Or.inl rfl) hG
  have ho := zT0_obj hT
  obtain ⟨a1, a2, a3, a4, a5, a6⟩ := id hA
  have tb := zT_t hT (j := zI h 469 6) (by omega) (by omega)
  have g2 : zI h 492 0 = 8 := by obtain ⟨k, N, nb, nn, nr, H, g1, g2, -⟩ := id hG; exact g2
  have hBB : zB (zuB ++ [(-128, 127)]) (zuR h ++ ([zI h 471 (zI h 469 6)] ++ [])) := zB_more hB (zB_cons tb.1 tb.2 zB_nil)
  have hR : zRS (fun k => zsm zbWf h k) (zuR h ++ ([zI h 471 (zI h 469 6)] ++ [])) zbE [(195, (0, mi_ent 0 [.ref 469], []))] h := by
    have hSt : zSt (zuR h ++ ([zI h 471 (zI h 469 6)] ++ [])) [.inr (.inl 469)] [.ref 469] := zSt_k ⟨rfl, rfl⟩ rfl
    exact ⟨⟨_, _, [], rfl, zent_ok 0 hSt, rfl, rfl⟩, za_H [] hT hA hf hb g2, zEn_mk hBB (zu_F _ hA), zsm_rf⟩
  have hJ : ∀ h1 h2, zsm zbWf h h1 → zsm zbWf h1 h2 → zsm zbWf h h2 := fun h1 h2 q z => zsm_tr q z (fun _ _ z => z)
  have hcal : zClO mi_P S (fun k => zsm zbWf h k) (fun d y as t en => zcal zbWf d y as t en [zc_3010, zc_3018]) := zclT (W := zbWf) hJ (fun _ _ z => z) (by
    intro c hc
    simp only [List.mem_cons, List.not_mem_nil, or_false] at hc
    rcases hc with rfl | rfl
    · exact zt_3010
    · exact zt_3018)
  have main := zseg (Q := zRp 0 (zI h 469 35) n0 h) (tg := zbTg) (fin := zfinT 10 (zuB ++ [(-128, 127)]) zaT [(zqF, [])]) hJ hcal zb_run hR ?_ ?_
  · exact main
  · intro F hF r1 rc fs1 h1 q1 q2 q3
    -- each of the ranks
    have key : ∀ {rk lo hi : Int}, rc.length = zi10.length + 0 → (∀ (k : Nat) (e : zL), zi10[k]? = some e → ∃ x, rc[k]? = some x ∧ zE ((zuR h ++ ([zI h 471 (zI h 469 6)] ++ [])) ++ r1) e x) → zRS (fun k => zsm zbWf h k) rc (zbH rk lo hi) fs1 h1 → ztle (zuB ++ [(lo, hi)], zuF, []) [] zaT zT0 = true → 0 ≤ rk → rk ≤ 6 →
        (∀ h2 fs2, zHp [] zT0 h2 → zGp 0 (zI h 469 35) n0 h2 → zTA h2 → zI h2 469 4 = 0 → zI h2 469 35 = zI h 469 35 → zf13 rk fs2 → lo ≤ zI h2 471 (zI h2 469 6) → zI h2 471 (zI h2 469 6) ≤ hi → (6 < zI h2 492 (zI h2 469 38 - 1) ∨ zI h2 492 (zI h2 469 38 - 1) < rk) → zFr (zI h 469 35) n0 h h2 → zI h2 469 6 = zI h 469 6 → zI h2 469 3 = zI h 469 3 → zI h2 469 7 = zI h 469 7 → zI h2 469 8 = zI h 469 8 → zKK mi_P S 4 (zRp 0 (zI h 469 35) n0 h) fs2 h2) → zKK mi_P S 4 (zRp 0 (zI h 469 35) n0 h) fs1 h1 := by
      intro rk lo hi q1 q2 q3 hle r1' r2' tail
      have e := zGe_eq0 (l := zuR h ++ ([zI h 471 (zI h 469 6)] ++ [])) q1 q2 (zGe_cons (zE_X rfl) (zGe_cons (zE_X rfl) (zGe_cons (zE_X rfl) (zGe_cons (zE_X rfl) (zGe_cons (zE_X rfl) (zGe_cons (zE_X rfl) (zGe_cons (zE_X rfl) (zGe_cons (zE_X rfl) (zGe_cons (zE_X rfl) (zGe_cons (zE_X rfl) zGe_nil))))))))))
      subst e
      obtain ⟨k1, k2, k3, k4⟩ := q3
      have hT1 : zHp [] zT0 h1 := zHp_T k3 hle k2
      have hsg : zB [(lo, hi)] ([zI h 471 (zI h 469 6)] ++ []) := zB_tail (bd := zuB) (r := zuR h) rfl k3.1
      obtain ⟨sv, s', es, l1, l2, -⟩ := zB_uncons hsg
      cases es
      have ho1 := zobj_sm k4 ho
      have hG1 := zGp_sm (by decide +kernel) ho k4 hG
      have t1 := zTA_sm (by decide +kernel) ho k4
      have f1 : zI h1 469 4 = 0 := zI_ck k2 zb_ck zE_K zE_K
      have rb1 : zI h1 469 35 = zI h 469 35 := zI_smf (j := 35) k4 ho (by decide +kernel)
      have x1 : zI h1 471 = zI h 471 := funext (zI_sm k4 (by decide +kernel))
      have c1 : zI h1 490 = zI h 490 := funext (zI_sm k4 (by decide +kernel))
      obtain ⟨kk, N, nb, nn, nr, H, p1, -⟩ := id hG1
      refine zpops (h0 := h1) (p := rk) hb r1' r2' ?_ kk h1 fs1 p1 ⟨hT1, hG1, zsm_rf, fun _ _ _ _ => rfl⟩ (zf13_of k1 zE_K)
      intro h2 fs2 hP hfs2 htop
      obtain ⟨hT2, hG2, hs2, hc2⟩ := hP
      have t2 := zTA_sm (W := zWp) (by decide +kernel) ho1 hs2
      have f2 : zI h2 469 4 = 0 := (zI_smf (j := 4) hs2 ho1 (by decide +kernel)).trans f1
      have rb2 : zI h2 469 35 = zI h 469 35 := (zI_smf (j := 35) hs2 ho1 (by decide +kernel)).trans rb1
      have x2 : zI h2 471 = zI h1 471 := funext (zI_sm hs2 (by decide +kernel))
      refine tail h2 fs2 hT2 hG2 (zTA_eq t2 (zTA_eq t1 hA)) f2 rb2 hfs2 ?_ ?_ htop ⟨?_, ?_⟩ ?_ ?_ ?_ ?_
      · rw [x2, t2.2.1, x1, t1.2.1]; exact l1
      · rw [x2, t2.2.1, x1, t1.2.1]; exact l2
      · exact zsm_tr (zsm_tr (W := zWr) zsm_rf k4 (zwle_ok (by decide +kernel))) hs2 (zwle_ok (by decide +kernel))
      · intro j j0 j1 j2
        rw [hc2 j j0 j1 j2, c1]
      · rw [t2.2.1, t1.2.1]
      · rw [t2.1, t1.1]
      · rw [t2.2.2.1, t1.2.2.1]
      · rw [t2.2.2.2, t1.2.2.2]
    simp only [zbTg, List.mem_cons, List.not_mem_nil, or_false] at hF
    rcases hF with rfl | rfl | rfl | rfl | rfl | rfl
    · exact key q1 q2 q3 (by decide +kernel) (by omega) (by omega) (fun h2 fs2 z1 z2 z3 z4 z5 z6 z7 z8 z9 z10 z11 z12 z13 z14 => ztail0 z1 z2 z3 z4 z5 hb z6 (by have := zT_w z1 (j := zI h2 469 38 - 1) (by have := zGp_b hb (Or.inl rfl) z2; omega) (by have := zGp_b hb (Or.inl rfl) z2; omega); omega) z10 z11 z12 z13 z14)
    · refine key q1 q2 q3 (by decide +kernel) (by omega) (by omega) (fun h2 fs2 z1 z2 z3 z4 z5 z6 z7 z8 z9 z10 z11 z12 z13 z14 => ?_)
      have w := zT_w z1 (j := zI h2 469 38 - 1) (by have := zGp_b hb (Or.inl rfl) z2; omega) (by have := zGp_b hb (Or.inl rfl) z2; omega)
      rcases z9 with z9 | z9
      · exact ztailA (sv := 124) ztk_1a (Or.inl rfl) ⟨by omega, by omega⟩ (fun r => zE_K) z1 z2 z3 z4 z5 hb z6 z7 z8 (by omega) (by omega) z10 z11 z12
      · exact ztailA (sv := 124) ztk_1b (Or.inl rfl) ⟨by omega, by omega⟩ (fun r => zE_K) z1 z2 z3 z4 z5 hb z6 z7 z8 (by omega) (by omega) z10 z11 z12
    · refine key q1 q2 q3 (by decide +kernel) (by omega) (by omega) (fun h2 fs2 z1 z2 z3 z4 z5 z6 z7 z8 z9 z10 z11 z12 z13 z14 => ?_)
      have w := zT_w z1 (j := zI h2 469 38 - 1) (by have := zGp_b hb (Or.inl rfl) z2; omega) (by have := zGp_b hb (Or.inl rfl) z2; omega)
      rcases z9 with z9 | z9
      · exact ztailA (sv := 38) ztk_2a (Or.inr (Or.inl rfl)) ⟨by omega, by omega⟩ (fun r => zE_K) z1 z2 z3 z4 z5 hb z6 z7 z8 (by omega) (by omega) z10 z11 z12
      · exact ztailA (sv := 38) ztk_2b (Or.inr (Or.inl rfl)) ⟨by omega, by omega⟩ (fun r => zE_K) z1 z2 z3 z4 z5 hb z6 z7 z8 (by omega) (by omega) z10 z11 z12
    · refine key q1 q2 q3 (by decide +kernel) (by omega) (by omega) (fun h2 fs2 z1 z2 z3 z4 z5 z6 z7 z8 z9 z10 z11 z12 z13 z14 => ?_)
      have w := zT_w z1 (j := zI h2 469 38 - 1) (by have := zGp_b hb (Or.inl rfl) z2; omega) (by have := zGp_b hb (Or.inl rfl) z2; omega)
      rcases z9 with z9 | z9
      · exact ztailA (sv := zI h2 471 (zI h2 469 6)) ztk_4a (by unfold zbin; omega) ⟨by omega, by omega⟩ (fun r => zE_X rfl) z1 z2 z3 z4 z5 hb z6 z7 z8 (by omega) (by omega) z10 z11 z12
      · exact ztailA (sv := zI h2 471 (zI h2 469 6)) ztk_4b (by unfold zbin; omega) ⟨by omega, by omega⟩ (fun r => zE_X rfl) z1 z2 z3 z4 z5 hb z6 z7 z8 (by omega) (by omega) z10 z11 z12
    · refine key q1 q2 q3 (by decide +kernel) (by omega) (by omega) (fun h2 fs2 z1 z2 z3 z4 z5 z6 z7 z8 z9 z10 z11 z12 z13 z14 => ?_)
      have w := zT_w z1 (j := zI h2 469 38 - 1) (by have := zGp_b hb (Or.inl rfl) z2; omega) (by have := zGp_b hb (Or.inl rfl) z2; omega)
      rcases z9 with z9 | z9
      · exact ztailA (sv := zI h2 471 (zI h2 469 6)) ztk_5a (by unfold zbin; omega) ⟨by omega, by omega⟩ (fun r => zE_X rfl) z1 z2 z3 z4 z5 hb z6 z7 z8 (by omega) (by omega) z10 z11 z12
      · exact ztailA (sv := zI h2 471 (zI h2 469 6)) ztk_5b (by unfold zbin; omega) ⟨by omega, by omega⟩ (fun r => zE_X rfl) z1 z2 z3 z4 z5 hb z6 z7 z8 (by omega) (by omega) z10 z11 z12
    · refine key q1 q2 q3 (by decide +kernel) (by omega) (by omega) (fun h2 fs2 z1 z2 z3 z4 z5 z6 z7 z8 z9 z10 z11 z12 z13 z14 => ?_)
      have w := zT_w z1 (j := zI h2 469 38 - 1) (by have := zGp_b hb (Or.inl rfl) z2; omega) (by have := zGp_b hb (Or.inl rfl) z2; omega)
      rcases z9 with z9 | z9
      · exact ztailA (sv := zI h2 471 (zI h2 469 6)) ztk_6a (by unfold zbin; omega) ⟨by omega, by omega⟩ (fun r => zE_X rfl) z1 z2 z3 z4 z5 hb z6 z7 z8 (by omega) (by omega) z10 z11 z12
      · exact ztailA (sv := zI h2 471 (zI h2 469 6)) ztk_6b (by unfold zbin; omega) ⟨by omega, by omega⟩ (fun r => zE_X rfl) z1 z2 z3 z4 z5 hb z6 z7 z8 (by omega) (by omega) z10 z11 z12
  · intro s hs r1 fs1 h1 hR1
    have hs2 : zfinT (zuR h ++ ([zI h 471 (zI h 469 6)] ++ [])).length (zuB ++ [(-128, 127)]) zaT [(zqF, [])] s = true := hs
    refine zKK_mono ?_ (zfinT_ok (r := zuR h ++ ([zI h 471 (zI h 469 6)] ++ [])) hs2 hR1)
    rintro x h' ⟨hsm, hT', po, hpo, s', pB, pF, pw, pr⟩
    have hpo : po = zqF := List.mem_singleton.mp hpo
    subst hpo
    have k4 := zPw_cb pw (k := 469) (e := zK 4) (lo := 1) (hi := 4) (by decide +kernel) zE_K
    obtain ⟨i, rfl, hi⟩ := zRt_K (c := 1) pr
    exact zfault ⟨i, rfl⟩ hb (Or.inl rfl) hG hT hsm hT' k4
/-! at the text's end -/
def zwS : zSt0 := [(469, 73, zK 8, .inl (zK 0)), (469, 73, zK 6, .inl (zX 0)), (469, 73, zK 7, .inl (zX 0)), (469, 73, zK 3, .inl (zX 0)), (469, 73, zK 38, .inl (zX 1)), (469, 73, zK 37, .inl (zX 2)), (469, 73, zK 4, .inl (zK 0))]
noncomputable def zwT : zT := zads zT0 zwS
theorem zw_c : zadc zT0 zwS = true := by decide +kernel
def zwB (wl : Int) : zBd := [(0, 1600), (1, 60), (wl, 7)]
noncomputable def zwE : zS := ([(195, 0, [(0, .inr (.inl 469))], [])], zwT, zwB 0, [], [])
noncomputable def zwH : zS := ([(195, 13, [(1, .inl (zK 0)), (0, .inr (.inl 469))], [])], zwT, zwB 0, [], [])
theorem zw_run : zrun (zstep mi_P 4 zW0 false [] [] (fun d y as t en => zcal zW0 d y as t en [zc_3007, zc_3008])) (fun s => ([(zwH, [zX 0, zX 1, zX 2], [])] : List zTg).any (zstg s) || znF s) 1000 [zwE] = true := by decide +kernel
def zwS2 (top : Int) : zSt0 := [(492, 90, (-1, [(1, 1)]), .inl (zK top))]
noncomputable def zwA (top wl : Int) : zS := ([(195, 13, [(1, .inl (zK 0)), (0, .inr (.inl 469))], [])], zads zwT (zwS2 top), zwB wl, [], [])
def zqw8 : zPo := ([], [], [(469, [(zK 38, .inl (-1, [(1, 1)])), (zK 4, .inl (zK 0))])], some (.inl (zK 0)))
def zqw7 : zPo := ([], [], [(469, [(zK 4, .inr (.inr (.inr (.inl (1, 4)))))])], some (.inl (zK 0)))
theorem zw_c8 : zadc zwT (zwS2 8) = true := by decide +kernel
theorem zw_c7 : zadc zwT (zwS2 7) = true := by decide +kernel
theorem zw_8 : zend? 4 zWq [] 3 (zwB 0) (zads zwT (zwS2 8)) [(zqw8, [])] (zwA 8 0) = true := by decide +kernel
theorem zw_7 : zend? 4 zt0W [zc_3008] 3 (zwB 1) (zads zwT (zwS2 7)) [(zqw7, [])] (zwA 7 1) = true := by decide +kernel
theorem zw_H {h : mH} (hT : zHp [] zT0 h) (hA : zTB h) (hf : zI h 469 4 = 0) : zHp [zI h 469 3, zI h 469 38, zI h 469 37] zwT h := by
  obtain ⟨a1, a2, a3, a4, a5⟩ := hA
  exact zads_ok (sp := zwS) (zHp_mono _ hT) zw_c ⟨⟨8, zE_K, by omega, by omega, by rw [a1]; exact zE_K⟩, ⟨6, zE_K, by omega, by omega, by rw [a2]; exact zE_X rfl⟩, ⟨7, zE_K, by omega, by omega, by rw [a3]; exact zE_X rfl⟩, ⟨3, zE_K, by omega, by omega, zE_X rfl⟩, ⟨38, zE_K, by omega, by omega, zE_X rfl⟩, ⟨37, zE_K, by omega, by omega, zE_X rfl⟩, ⟨4, zE_K, by omega, by omega, by rw [hf]; exact zE_K⟩, trivial⟩
theorem zbehB {S : Nat × (Nat → Int32)} {D : Nat} (hD : 4 ≤ D) {h : mH} {b n0 : Int} (hT : zHp [] zT0 h) (hA : zTB h) (hf : zI h 469 4 = 0) (hrb : zI h 469 35 = b) (hb : b = 0 ∨ b = 1) (hG : zGp 0 b n0 h) : mi_T mi_P S D 195 (0, mi_ent 0 [.ref 469], []) h (zRp 0 b n0 h) := by
  refine mi_T_d hD ?_
  subst hrb
  have ho := zT0_obj hT
  obtain ⟨a1, a2, a3, a4, a5⟩ := id hA
  obtain ⟨b1, b2, b3, b4, b5, b6, b7, b8, b9, b10, b11⟩ := zGp_b hb (Or.inl rfl) hG
  have hB : zB (zwB 0) [zI h 469 3, zI h 469 38, zI h 469 37] := zB_cons (by omega) (by omega) (zB_cons (by omega) (by omega) (zB_cons (by omega) (by omega) zB_nil))
  have hR : zRS (fun k => zsm zW0 h k) [zI h 469 3, zI h 469 38, zI h 469 37] zwE [(195, (0, mi_ent 0 [.ref 469], []))] h := by
    have hSt : zSt [zI h 469 3, zI h 469 38, zI h 469 37] [.inr (.inl 469)] [.ref 469] := zSt_k ⟨rfl, rfl⟩ rfl
    exact ⟨⟨_, _, [], rfl, zent_ok 0 hSt, rfl, rfl⟩, zw_H hT hA hf, zEn_mk hB zFa_nil, zsm_rf⟩
  have hJ : ∀ h1 h2, zsm zW0 h h1 → zsm zW0 h1 h2 → zsm zW0 h h2 := fun h1 h2 q z => zsm_tr q z (fun _ _ z => z)
  have hcal : zClO mi_P S (fun k => zsm zW0 h k) (fun d y as t en => zcal zW0 d y as t en [zc_3007, zc_3008]) := zclT (W := zW0) hJ (fun _ _ z => z) (by
    intro c hc
    simp only [List.mem_cons, List.not_mem_nil, or_false] at hc
    rcases hc with rfl | rfl
    · exact zt_3007
    · exact zt_3008)
  have main := zseg (Q := zRp 0 (zI h 469 35) n0 h) (tg := [(zwH, [zX 0, zX 1, zX 2], [])]) (fin := znF) hJ hcal zw_run hR ?_ (fun s hs => by cases hs)
  · exact main
  · intro F hF r1 rc fs1 h1 q1 q2 q3
    have hF := List.mem_singleton.mp hF
    subst hF
    have e := zGe_eq0 (l := [zI h 469 3, zI h 469 38, zI h 469 37]) q1 q2 (zGe_cons (zE_X rfl) (zGe_cons (zE_X rfl) (zGe_cons (zE_X rfl) zGe_nil)))
    subst e
    obtain ⟨k1, k2, k3, k4⟩ := q3
    have hT1 : zHp [] zT0 h1 := zHp_T k3 (by decide +kernel) k2
    have ho1 := zobj_sm k4 ho
    have hG1 := zGp_sm (by decide +kernel) ho k4 hG
    have t1 := zTA_sm (by decide +kernel) ho k4
    have f1 : zI h1 469 4 = 0 := (zI_smf (j := 4) k4 ho (by decide +kernel)).trans hf
    have rb1 : zI h1 469 35 = zI h 469 35 := zI_smf (j := 35) k4 ho (by decide +kernel)
    have c1 : zI h1 490 = zI h 490 := funext (zI_sm k4 (by decide +kernel))
    obtain ⟨kk, N, nb, nn, nr, H, p1, -⟩ := id hG1
    refine zpops (h0 := h1) (p := 0) hb (by omega) (by omega) ?_ kk h1 fs1 p1 ⟨hT1, hG1, zsm_rf, fun _ _ _ _ => rfl⟩ (zf13_of k1 zE_K)
    intro h2 fs2 hP hfs2 htop
    obtain ⟨hT2, hG2, hs2, hc2⟩ := hP
    have ho2 := zT0_obj hT2
    have t2 := zTA_sm (W := zWp) (by decide +kernel) ho1 hs2
    have f2 : zI h2 469 4 = 0 := (zI_smf (j := 4) hs2 ho1 (by decide +kernel)).trans f1
    have hA2 := zTB_eq t2 (zTB_eq t1 hA)
    have hF2 : zFr (zI h 469 35) n0 h h2 := ⟨zsm_tr (zsm_tr (W := zWr) zsm_rf k4 (fun k j z => by rw [zW0_no] at z; cases z)) hs2 (zwle_ok (by decide +kernel)), fun j j0 j1 j2 => by rw [hc2 j j0 j1 j2, c1]⟩
    obtain ⟨d1, d2, d3, d4, d5, d6, d7, d8, d9, d10, d11⟩ := zGp_b hb (Or.inl rfl) hG2
    have hG20 := hG2
    obtain ⟨k, N, nb, nn, nr, H, g1, g2, g3, g4, -⟩ := hG2
    have ei : zI h2 469 38 - 1 = k := by omega
    have w := zT_w hT2 (j := zI h2 469 38 - 1) (by omega) (by omega)
    have hv := zpl_v g2 g3 (by rw [← ei]; omega)
    obtain ⟨u1, u2, u3, u4, u5⟩ := id hA2
    have hRR : ∀ (W : zW) (top wl : Int), zadc zwT (zwS2 top) = true → zI h2 492 k = top → wl ≤ zI h2 469 37 → zRS (fun k => zsm W h2 k) [zI h2 469 3, zI h2 469 38, zI h2 469 37] (zwA top wl) fs2 h2 := by
      intro W top wl hc ht hwl
      refine ⟨zf13_to hfs2 zE_K, ?_, zEn_mk (zB_cons (by omega) (by omega) (zB_cons (by omega) (by omega) (zB_cons (by omega) (by omega) zB_nil))) zFa_nil, zsm_rf⟩
      exact zads_ok (sp := zwS2 top) (zw_H hT2 hA2 f2) hc ⟨⟨zI h2 469 38 - 1, zE_v (zE_1 rfl) (by omega), by omega, by omega, by rw [ei, ht]; exact zE_K⟩, trivial⟩
    rcases hv with hv | hv
    · obtain ⟨k', hk', hp⟩ := zpl_7 g2 g3 hv
      have pb := zpl_b hp
      have M7 : zKK mi_P S 4 (zEd zt0W h2 [zI h2 469 3, zI h2 469 38, zI h2 469 37] (zwB 1) [(zqw7, [])]) fs2 h2 := zend (r := [zI h2 469 3, zI h2 469 38, zI h2 469 37]) (cts := [zc_3008]) (pre := zads zwT (zwS2 7)) (s := zwA 7 1) zw_7 (fun c hc => by rw [List.mem_singleton.mp hc]; exact zt_3008) (hRR zt0W 7 1 zw_c7 hv (by omega))
      refine zKK_mono ?_ M7
      rintro x h' ⟨hsm, hT', po, hpo, s', pB, pF, pw, pr⟩
      have hpo : po = zqw7 := List.mem_singleton.mp hpo
      subst hpo
      have k4 := zPw_cb pw (k := 469) (e := zK 4) (lo := 1) (hi := 4) (by decide +kernel) zE_K
      obtain ⟨i, rfl, hi⟩ := zRt_K (c := 0) pr
      exact zbrF ⟨i, rfl⟩ hb hG20 hT2 hF2 hsm hT' k4
    · have M8 : zKK mi_P S 4 (zEd zWq h2 [zI h2 469 3, zI h2 469 38, zI h2 469 37] (zwB 0) [(zqw8, [])]) fs2 h2 := zend (r := [zI h2 469 3, zI h2 469 38, zI h2 469 37]) (cts := []) (pre := zads zwT (zwS2 8)) (s := zwA 8 0) zw_8 (fun c hc => by cases hc) (hRR zWq 8 0 zw_c8 hv (by omega))
      refine zKK_mono ?_ M8
      rintro x h' ⟨hsm, hT', po, hpo, s', pB, pF, pw, pr⟩
      have hpo : po = zqw8 := List.mem_singleton.mp hpo
      subst hpo
      obtain ⟨i, rfl, hi⟩ := zRt_K (c := 0) pr
      have k38 := zPw_ck pw (k := 469) (e := zK 38) (d := (-1, [(1, 1)])) (by decide +kernel) zE_K (zE_mono s' (zE_1 rfl))
      have k4 := zPw_ck pw (k := 469) (e := zK 4) (d := zK 0) (by decide +kernel) zE_K zE_K
      exact zdone hb hG20 (by rw [ei]; exact hv) hT2 hF2 (t2.1.trans t1.1) (t2.2.1.trans t1.2.1) (t2.2.2.1.trans t1.2.2.1) (t2.2.2.2.trans t1.2.2.2) hsm hT' k4 (by omega) ⟨i, rfl⟩
