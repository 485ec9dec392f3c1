/-! house(): the loop over the lines, and the whole -/
def zhQ (h0 : mH) (x : Option Value) (h' : mH) : Prop := (∃ i : Int32, x = some (.int i)) ∧ zsm zhWH h0 h' ∧ zHp [] zT1 h' ∧ zOm h' ∧ ((zI h' 469 53 = zI h0 469 53 ∧ zI h' 469 54 = zI h0 469 54) ∨ (zI h' 469 53 = 0 ∧ zI h' 469 54 = 0))
theorem zRt_i {r : List Int} {x : Option Value} (h : zRt r (some zaI) x) : ∃ i : Int32, x = some (.int i) := by
  obtain ⟨y, rfl, i, rfl, -⟩ := h
  exact ⟨i, rfl⟩
theorem zhexF {S : Nat × (Nat → Int32)} {h0 h : mH} {fs : List (Nat × mF)} (ho0 : zobj h0 469) (hT : zHp [] zT1 h) (hO : zOm2 h) (hs : zsm zhWA h0 h) (q : 1 ≤ zI h 469 4 ∧ zI h 469 4 ≤ 4) (hfs : zf0 170 42 fs) : zKK mi_P S 10 (zhQ h0) fs h := by
  have ho := zT0_obj (zT10 hT)
  have a53 : zI h 469 53 = zI h0 469 53 := zI_smf (j := 53) hs ho0 (by decide +kernel)
  have a54 : zI h 469 54 = zI h0 469 54 := zI_smf (j := 54) hs ho0 (by decide +kernel)
  have hR : zRS (fun k => zsm zW0 h k) [] zhXF fs h := ⟨zf0_to hfs, zads_ok (sp := [(469, 73, zK 4, .inr (.inr (.inr (.inl (1, 4)))))]) hT zh_cF ⟨⟨4, zE_K, by omega, by omega, q.1, q.2⟩, trivial⟩, zEn_mk zB_nil zFa_nil, zsm_rf⟩
  have M : zKK mi_P S 10 (zEu zW0 h [] [] [(zhqF, [])]) fs h := zenu (r := []) (cts := []) (pre := zT1) (s := zhXF) zh_F (fun c hc => by cases hc) hR
  refine zKK_mono ?_ M
  rintro x h' ⟨hsm, hT', po, hpo, s, -, -, -, pr⟩
  have hpo : po = zhqF := List.mem_singleton.mp hpo
  subst hpo
  refine ⟨zRt_i pr, zsm_tr (zsm_tr (W := zhWH) zsm_rf hs (zwle_ok (by decide +kernel))) hsm (fun k j z => by rw [zW0_no] at z; cases z), hT', zOm_st (W := zW0) (by decide +kernel) h h' hO.1 hsm, Or.inl ⟨(zI_smf (j := 53) hsm ho (by decide +kernel)).trans a53, (zI_smf (j := 54) hsm ho (by decide +kernel)).trans a54⟩⟩
theorem zhexB {S : Nat × (Nat → Int32)} {h0 h : mH} {fs : List (Nat × mF)} (hT : zHp [] zT1 h) (hO : zOm2 h) (hs : zsm zhWA h0 h) (f0 : zI h 469 4 = 0) (t0 : zI h 469 8 = 0) (hfs : zf0 170 42 fs) : zKK mi_P S 10 (zhQ h0) fs h := by
  have ho := zT0_obj (zT10 hT)
  obtain ⟨hOm, hb, hbk, h4, hRI⟩ := hO
  have hRI : zRI h := by
    rcases hRI with q | q
    · omega
    · exact q
  have hR : zRS (fun k => zsm zhWX h k) [zI h 469 35] zhXB fs h := ⟨zf0_to hfs, zads_ok (sp := zhSx) (zHp_mono _ hT) zh_cB ⟨⟨4, zE_K, by omega, by omega, by rw [f0]; exact zE_K⟩, ⟨8, zE_K, by omega, by omega, by rw [t0]; exact zE_K⟩, ⟨35, zE_K, by omega, by omega, zE_X rfl⟩, trivial⟩, zEn_mk (zB_cons (by omega) (by omega) zB_nil) zFa_nil, zsm_rf⟩
  have M : zKK mi_P S 10 (zEu zhWX h [zI h 469 35] [(0, 1)] [(zhqB, [])]) fs h := zenu (r := [zI h 469 35]) (cts := [zc_3201]) (pre := zT1) (s := zhXB) zh_B (fun c hc => by rw [List.mem_singleton.mp hc]; exact zt_3201) hR
  refine zKK_mono ?_ M
  rintro x h' ⟨hsm, hT', po, hpo, s, -, -, pw, pr⟩
  have hpo : po = zhqB := List.mem_singleton.mp hpo
  subst hpo
  have e34 : zI h' 469 34 = zI h 469 35 := zPw_ck pw (k := 469) (e := zK 34) (d := zX 0) (by decide +kernel) zE_K (zE_mono s (zE_X rfl))
  have e53 : zI h' 469 53 = 0 := zPw_ck pw (k := 469) (e := zK 53) (d := zK 0) (by decide +kernel) zE_K zE_K
  have e54 : zI h' 469 54 = 0 := zPw_ck pw (k := 469) (e := zK 54) (d := zK 0) (by decide +kernel) zE_K zE_K
  have e479 : zI h' 479 = zI h 479 := funext (zI_sm hsm (by decide +kernel))
  have e486 : zI h' 486 = zI h 486 := funext (zI_sm hsm (by decide +kernel))
  have e487 : zI h' 487 = zI h 487 := funext (zI_sm hsm (by decide +kernel))
  have e490 : zI h' 490 = zI h 490 := funext (zI_sm hsm (by decide +kernel))
  obtain ⟨r1, r2, r3, r4, r5⟩ := hRI
  refine ⟨zRt_i pr, zsm_tr (zsm_tr (W := zhWH) zsm_rf hs (zwle_ok (by decide +kernel))) hsm (zwle_ok (by decide +kernel)), hT', ⟨zobj_sm hsm ho, ?_⟩, Or.inr ⟨e53, e54⟩⟩
  rw [e34, e479]
  intro s' s0 s1
  obtain ⟨n, H, b1, b2, b3, b4⟩ := r5 s' s0 s1
  unfold zsafe
  rw [e486, e487, e490]
  exact ⟨n, H, b1, b2, b3, by omega⟩
theorem zhloop {S : Nat × (Nat → Int32)} {h0 : mH} (ho0 : zobj h0 469) : ∀ (d : Nat) (h : mH) (fs : List (Nat × mF)), (zI h 469 3 - zI h 469 7).toNat ≤ d → zHp [] zT1 h → zOm2 h → zsm zhWA h0 h → zI h 469 4 = 0 → zTA h → zf0 170 42 fs → zKK mi_P S 10 (zhQ h0) fs h := by
  intro d
  induction d using Nat.strongRecOn with
  | ind d ih =>
    intro h fs hd hT hO hs f0 tA hfs
    have hT0 := zT10 hT
    have ho := zT0_obj hT0
    -- a line
    obtain ⟨hOm, hb, hbk, h4, hRI⟩ := id hO
    obtain ⟨t1, t2, t3, t4, t5, t6⟩ := id tA
    have line : ∀ {b : Int} {ct : zCt}, zCtr mi_P S zOm2 ct → zhlk b ct = true → ct.1 = 178 → ct.2.1 ≤ 9 → ct.2.2.2.1 = zyb → ct.2.2.2.2.2.2.2.2 = [zq_3113_0, zq_3113_1, zq_3113_2] → zI h 469 35 = b → zKK mi_P S 10 (zhQ h0) fs h := by
      intro b ct hct hk h1 h2 h4' hps eb
      have hk0 := hk
      unfold zhlk at hk
      simp only [Bool.and_eq_true] at hk
      obtain ⟨c1, c2, c3, c4, c5, c6, -⟩ := hk
      have hB : zB zyb [zI h 469 6, zI h 469 7, zI h 469 3] := zB_cons (by omega) (by omega) (zB_cons (by omega) (by omega) (zB_cons (by omega) (by omega) zB_nil))
      have hF : zFa zuF [zI h 469 6, zI h 469 7, zI h 469 3] := zFa_cons (zE_2 rfl rfl) (by omega) (zFa_cons (zE_2 rfl rfl) (by omega) zFa_nil)
      have hH : zHp [zI h 469 6, zI h 469 7, zI h 469 3] (zads zT1 (zhSl b)) h := zads_ok (sp := zhSl b) (zHp_mono _ hT) c2 ⟨⟨4, zE_K, by omega, by omega, by rw [f0]; exact zE_K⟩, ⟨8, zE_K, by omega, by omega, t1, t2⟩, ⟨6, zE_K, by omega, by omega, zE_X rfl⟩, ⟨7, zE_K, by omega, by omega, zE_X rfl⟩, ⟨3, zE_K, by omega, by omega, zE_X rfl⟩, ⟨35, zE_K, by omega, by omega, by rw [eb]; exact zE_K⟩, trivial⟩
      have hR : zRS (fun k => zsm zW0 h k) [zI h 469 6, zI h 469 7, zI h 469 3] (zhl0 b) fs h := ⟨zf0_to hfs, hH, zEn_mk hB hF, zsm_rf⟩
      refine zseg (tg := [(zhl1 b, [zX 0, zX 1, zX 2], [])]) (fin := znF) (fun h1 h2 q z => zsm_tr q z (fun _ _ z => z)) znC_ok c1 hR ?_ (fun s hs => by cases hs)
      intro F hFF r1 rc fs1 h1' q1 q2 q3
      have hFF := List.mem_singleton.mp hFF
      subst hFF
      have e := zGe_eq0 (l := [zI h 469 6, zI h 469 7, zI h 469 3]) q1 q2 (zGe_cons (zE_X rfl) (zGe_cons (zE_X rfl) (zGe_cons (zE_X rfl) zGe_nil)))
      subst e
      obtain ⟨k1, k2, k3, k4⟩ := q3
      have hO1 : zOm2 h1' := zOm2_st (W := zW0) (by decide +kernel) h h1' hO k4
      have ea : ∀ k, zI h1' k = zI h k := fun k => funext (zI_sm k4 (by unfold zjs zW0; rw [show (Lean.RArray.leaf ((0, []) : Nat × List Nat)).get k = (0, []) from rfl]; rfl))
      have hT1 : zHp [] zT0 h1' := zHp_T k3 (by
        have : ztle (zyb, zuF, []) [] (zads zT1 (zhSl b)) zT0 = true := by
          rcases hb with q | q
          · rw [← eb, q]; decide +kernel
          · rw [← eb, q]; decide +kernel
        exact this) k2
      split at c4
      · rename_i q hq
        refine zhc (ct := ct) (W := ct.2.2.2.2.2.2.1) (Z := fun _ h2 => zOm2 h2 ∧ zhalt h1' h2) (by rw [h1]; decide +kernel) c3 hq c6 ?_ ⟨k1, k2, k3, k4⟩ ?_
        · intro xs rc' hB1 hF1 hA1 hH1
          exact zhline hct hk0 h2 h4' hps rfl rfl hT1 hO1 hB1 hF1 hA1 hH1 (by rw [ea 469]; omega)
        · rintro w hw s x h2' fs2 hsm ⟨hO2, al⟩ hro hR2
          have hrun := List.all_eq_true.mp c4 w hw
          have hR3 : zRS (fun k => zsm zW0 h2' k) ([zI h 469 6, zI h 469 7, zI h 469 3] ++ s) _ fs2 h2' := ⟨hR2.1, hR2.2.1, hR2.2.2.1, zsm_rf⟩
          refine zseg (tg := [(zhl2, [], [])]) (fin := znF) (fun h1 h2 q z => zsm_tr q z (fun _ _ z => z)) znC_ok hrun hR3 ?_ (fun s hs => by cases hs)
          intro F hFF r1' rc2 fs3 h3' p1 p2 p3
          have hFF := List.mem_singleton.mp hFF
          subst hFF
          have e := zGe_eq0 (l := []) p1 p2 zGe_nil
          subst e
          obtain ⟨m1, m2, m3, m4⟩ := p3
          have eb3 : ∀ k, zI h3' k = zI h2' k := fun k => funext (zI_sm m4 (by unfold zjs zW0; rw [show (Lean.RArray.leaf ((0, []) : Nat × List Nat)).get k = (0, []) from rfl]; rfl))
          have ho1 := zT0_obj hT1
          have hT3 : zHp [] zT1 h3' := m2
          have hO3 : zOm2 h3' := zOm2_st (W := zW0) (by decide +kernel) h2' h3' hO2 m4
          have hs3 : zsm zhWA h0 h3' := zsm_tr (zsm_tr (zsm_tr hs k4 (fun k j z => by rw [zW0_no] at z; cases z)) hsm (zwle_ok c5)) m4 (fun k j z => by rw [zW0_no] at z; cases z)
          have c0 : zw ct.2.2.2.2.2.2.1 469 3 = false := by
            unfold zhlk at hk0
            simp only [Bool.and_eq_true] at hk0
            simpa using hk0.2.2.2.2.2.2.2.2.2
          have e3 : zI h2' 469 3 = zI h 469 3 := (zI_smf (j := 3) hsm ho1 c0).trans (congrFun (ea 469) 3)
          have e7 : zI h1' 469 7 = zI h 469 7 := by rw [ea 469]
          rcases al with z | ⟨z0, z | z⟩
          · exact zhexF ho0 hT3 hO3 hs3 (by rw [eb3 469]; exact z) (zf0_of m1)
          · refine ih (zI h3' 469 3 - zI h3' 469 7).toNat ?_ h3' fs3 (Nat.le_refl _) hT3 hO3 hs3 (by rw [eb3 469]; exact z0) (by unfold zTA at z ⊢; rw [eb3 469]; exact z.1) (zf0_of m1)
            obtain ⟨⟨v1, v2, v3, v4, v5, v6⟩, v7⟩ := z
            rw [eb3 469, e3]
            exact Nat.lt_of_lt_of_le (ztn (by rw [← e7]; exact v7) (by rw [← e3]; exact v5)) hd
          · exact zhexB hT3 hO3 hs3 (by rw [eb3 469]; exact z0) (by rw [eb3 469]; exact z.1) (zf0_of m1)
      · cases c4
    rcases hb with q | q
    · exact line (b := 0) (ct := zc_3113) zn_3113 zhlk_0 rfl (by decide) rfl rfl q
    · exact line (b := 1) (ct := zc_3114) zn_3114 zhlk_1 rfl (by decide) rfl rfl q
def zhW0 : zW := .branch 471 (.leaf (470, [3, 4, 5])) (.leaf (472, [0]))
theorem zh_1' : zrun (zstep mi_P 10 zhW0 false [] [] znC) (fun s => ([(zhL, [zX 0, zK 0], [])] : List zTg).any (zstg s) || znF s) 300 [zh0] = true := by decide +kernel
theorem zh_2' : zrun (zstep mi_P 10 zhW0 false [] [] znC) (fun s => ([(zhL, [zX 0, (1, [(1, 1)])], [])] : List zTg).any (zstg s) || znF s) 300 [zhL1] = true := by decide +kernel
theorem zh_kL : (zchk (zads zT1 zhS) 469 (zK 3) (zX 0) && zchk (zads zT1 zhS) 469 (zK 4) (zK 0)) = true := by decide +kernel
/-- behind the copy of the tape -/
theorem zhgo {S : Nat × (Nat → Int32)} {h0 h : mH} {i : Int} {fs : List (Nat × mF)} (ho0 : zobj h0 469) (hT : zHp [] zT1 h) (hO : zOm h) (hs : zsm zhW0 h0 h) (f0 : zI h 469 4 = 0) (i0 : 0 ≤ i) (i1 : i ≤ 1600) (hi : zI h 469 3 ≤ i) (s0 : 0 ≤ zI h 469 3) (hfs : zfp 170 12 i fs) : zKK mi_P S 10 (zhQ h0) fs h := by
  have hT0 := zT10 hT
  have ho := zT0_obj hT0
  have bb : 0 ≤ zI h 469 34 ∧ zI h 469 34 ≤ 1 := zI_cb hT (k := 469) (e := zK 34) (by decide +kernel) zE_K (by omega) (by rw [show zlen zT1 469 = 73 by decide +kernel]; omega)
  have key : ∀ c : Int, zhk c = true → zI h 469 34 = c → (c = 0 ∨ c = 1) → zKK mi_P S 10 (zhQ h0) fs h := by
    intro c hk ec hc01
    unfold zhk at hk
    simp only [Bool.and_eq_true] at hk
    obtain ⟨c1, c2, c3, c4, ⟨d1, d2, d3, d4, d5, d6, d7, d8, d9, d10, d11, d12⟩, e1, e2, e3, e4, e5, e6, e7, e8, e9, e10, e11⟩ := hk
    have d11 := Nat.eq_of_beq_eq_true d11
    have sb := zT_so hT0 (j := c) (by omega) (by omega)
    have hR : zRS (fun k => zsm zhW h k) [zI h 469 3, i, zI h 479 c] (zhX c) fs h := ⟨zfp_to hfs (zE_X rfl), zads_ok (sp := zhSX c) (zHp_mono _ hT) c2 ⟨⟨3, zE_K, by omega, by omega, zE_X rfl⟩, ⟨4, zE_K, by omega, by omega, by rw [f0]; exact zE_K⟩, ⟨34, zE_K, by omega, by omega, by rw [ec]; exact zE_K⟩, ⟨c, zE_K, by omega, by omega, zE_X rfl⟩, trivial⟩, zEn_mk (zB_cons (by omega) (by omega) (zB_cons i0 i1 (zB_cons sb.1 sb.2 zB_nil))) (zFa_cons (zE_2 rfl rfl) (by omega) zFa_nil), zsm_rf⟩
    have hJ : ∀ h1 h2, zsm zhW h h1 → zsm zhW h1 h2 → zsm zhW h h2 := fun h1 h2 q z => zsm_tr q z (fun _ _ z => z)
    refine zseg (tg := zhTg c) (fin := znF) hJ (zclT (W := zhW) hJ (fun _ _ z => z) (fun ct hct => by rw [List.mem_singleton.mp hct]; exact zt_3003)) c1 hR ?_ (fun s hs => by cases hs)
    -- what is so at the loop's head
    have om : ∀ {h1 : mH}, zsm zhW h h1 → zHp [] zT1 h1 → zI h1 469 34 = c → zI h1 469 35 = 1 - c → zI h1 469 36 = 560 * (1 - c) → zI h1 479 (1 - c) = 0 → zI h1 479 c = zI h 479 c → zI h1 481 (1 - c) = 0 → zOm2 h1 := by
      intro h1 sm hT1 x34 x35 x36 xs xo xu
      have y486 : zI h1 486 = zI h 486 := funext (zI_sm sm (by decide +kernel))
      have y487 : zI h1 487 = zI h 487 := funext (zI_sm sm (by decide +kernel))
      have y490 : zI h1 490 = zI h 490 := funext (zI_sm sm (by decide +kernel))
      have hO1 : zOm h1 := zOm_keep hO (zT0_obj (zT10 hT1)) (by omega) (by omega) (by rw [ec]; exact xo) (by rw [ec]; exact sb.2) (fun s _ _ => by rw [y486, y487]; exact ⟨rfl, rfl⟩) (fun j _ _ => by rw [y490])
      refine ⟨hO1, by omega, by omega, by rw [x34, xo]; exact sb.2, Or.inr ?_⟩
      unfold zRI
      rw [x35, x36, xu, xs]
      exact ⟨by omega, by omega, by omega, by omega, fun s s0 s1 => by omega⟩
    intro F hFF r1 rc fs1 h1 q1 q2 q3
    have hA : ∀ {h1 : mH}, zsm zhW h h1 → zsm zhWA h0 h1 := fun sm => zsm_tr (zsm_tr (W := zhWA) zsm_rf hs (zwle_ok (by decide +kernel))) sm (zwle_ok (by decide +kernel))
    simp only [zhTg, List.mem_cons, List.not_mem_nil, or_false] at hFF
    have ge : zGe [zI h 469 3, i, zI h 479 c] [zX 0, zX 1, zX 2] [zI h 469 3, i, zI h 479 c] := zGe_cons (zE_X rfl) (zGe_cons (zE_X rfl) (zGe_cons (zE_X rfl) zGe_nil))
    rcases hFF with rfl | rfl
    · obtain ⟨tl, e, hl2⟩ := zGe_eq (n := 2) q1 q2 ge
      subst e
      obtain ⟨k1, k2, k3, k4⟩ := q3
      have hT1 : zHp [] zT1 h1 := zHp_T k3 c3 k2
      have hB3 : zB ([(0, 1600), (0, 1600), (0, 4)] ++ [(0, 1600), (0, 1600)]) ([zI h 469 3, i, zI h 479 c] ++ tl) := k3.1
      have hB2 : zB [(0, 1600), (0, 1600)] tl := zB_tail rfl hB3
      obtain ⟨x1, tl1, rfl, x2, x3, hB2⟩ := zB_uncons hB2
      obtain ⟨y1, tl2, rfl, y2, y3, hB2⟩ := zB_uncons hB2
      have := zB_unnil hB2
      subst this
      have u1 := zFa_hd k3.2.1 (zE_2 rfl rfl)
      have u2 := zFa_hd (zFa_tl k3.2.1) (zE_2 rfl rfl)
      have v35 := zI_ck k2 d1 zE_K zE_K
      have v36 := zI_ck k2 d2 zE_K zE_K
      have vs := zI_ck k2 d3 zE_K zE_K
      have vo := zI_ck k2 d4 zE_K (zE_X rfl)
      have vu := zI_ck k2 d5 zE_K zE_K
      have v4 := zI_ck k2 d6 zE_K zE_K
      have v3 := zI_ck k2 d7 zE_K (zE_X rfl)
      have v8 := zI_cb k2 d8 zE_K (by omega) (by rw [d11]; omega)
      have v6 := zI_ck k2 d9 zE_K (zE_X rfl)
      have v7 := zI_ck k2 d10 zE_K (zE_X rfl)
      have v34 := zI_ck k2 d12 zE_K zE_K
      exact zhloop ho0 _ h1 fs1 (Nat.le_refl _) hT1 (om k4 hT1 v34 v35 v36 vs vo vu) (hA k4) v4 ⟨v8.1, v8.2, by omega, by omega, by omega, by omega⟩ (zf0_of k1)
    · obtain ⟨tl, e, hl2⟩ := zGe_eq (n := 0) q1 q2 ge
      have := List.eq_nil_of_length_eq_zero hl2
      subst this
      rw [List.append_nil] at e
      subst e
      obtain ⟨k1, k2, k3, k4⟩ := q3
      have hT1 : zHp [] zT1 h1 := zHp_T k3 c4 k2
      have v35 := zI_ck k2 e1 zE_K zE_K
      have v36 := zI_ck k2 e2 zE_K zE_K
      have vs := zI_ck k2 e3 zE_K zE_K
      have vo := zI_ck k2 e4 zE_K (zE_X rfl)
      have vu := zI_ck k2 e5 zE_K zE_K
      have v4 := zI_ck k2 e6 zE_K zE_K
      have v8 := zI_ck k2 e8 zE_K zE_K
      have v34 := zI_ck k2 e11 zE_K zE_K
      exact zhexB hT1 (om k4 hT1 v34 v35 v36 vs vo vu) (hA k4) v4 v8 (zf0_of k1)
  rcases (by omega : zI h 469 34 = 0 ∨ zI h 469 34 = 1) with q | q
  · exact key 0 zhk_0 q (Or.inl rfl)
  · exact key 1 zhk_1 q (Or.inr rfl)
theorem zhcopy {S : Nat × (Nat → Int32)} {h0 : mH} (ho0 : zobj h0 469) : ∀ (d : Nat) (i : Int) (h : mH) (fs : List (Nat × mF)), (zI h 469 3 - i).toNat ≤ d → zHp [] zT1 h → zOm h → zsm zhW0 h0 h → zI h 469 4 = 0 → 0 ≤ i → i ≤ 1600 → 0 ≤ zI h 469 3 → zI h 469 3 ≤ 1600 → zfp 170 12 i fs → zKK mi_P S 10 (zhQ h0) fs h := by
  intro d
  induction d with
  | zero =>
    intro i h fs hd hT hO hs f0 i0 i1 s0 s1 hfs
    exact zhgo ho0 hT hO hs f0 i0 i1 (by omega) s0 hfs
  | succ d ih =>
    intro i h fs hd hT hO hs f0 i0 i1 s0 s1 hfs
    rcases (by omega : zI h 469 3 ≤ i ∨ i < zI h 469 3) with q | q
    · exact zhgo ho0 hT hO hs f0 i0 i1 q s0 hfs
    · have hR : zRS (fun k => zsm zhW0 h k) [zI h 469 3, i] zhL1 fs h := ⟨zfp_to hfs (zE_X rfl), zads_ok (sp := zhS) (zHp_mono _ hT) zh_cL ⟨⟨3, zE_K, by omega, by omega, zE_X rfl⟩, ⟨4, zE_K, by omega, by omega, by rw [f0]; exact zE_K⟩, trivial⟩, zEn_mk (zB_cons s0 s1 (zB_cons i0 (by omega) zB_nil)) (zFa_cons (zE_2 rfl rfl) (by omega) zFa_nil), zsm_rf⟩
      refine zseg (tg := [(zhL, [zX 0, (1, [(1, 1)])], [])]) (fin := znF) (fun h1 h2 q z => zsm_tr q z (fun _ _ z => z)) znC_ok zh_2' hR ?_ (fun s hs => by cases hs)
      intro F hFF r1 rc fs1 h1 q1 q2 q3
      have hFF := List.mem_singleton.mp hFF
      subst hFF
      have e := zGe_eq0 (l := [zI h 469 3, i + 1]) q1 q2 (zGe_cons (zE_X rfl) (zGe_cons (zE_v (zE_1 rfl) (by omega)) zGe_nil))
      subst e
      obtain ⟨k1, k2, k3, k4⟩ := q3
      have hT1 : zHp [] zT1 h1 := zHp_T k3 zh_tL k2
      have ck := zh_kL
      rw [Bool.and_eq_true] at ck
      have e3 : zI h1 469 3 = zI h 469 3 := zI_ck k2 ck.1 zE_K (zE_X rfl)
      have e4 : zI h1 469 4 = 0 := zI_ck k2 ck.2 zE_K zE_K
      exact ih (i + 1) h1 fs1 (by rw [e3]; omega) hT1 (zOm_st (W := zhW0) (by decide +kernel) h h1 hO k4) (zsm_tr hs k4 (fun _ _ z => z)) e4 (by omega) (by omega) (by rw [e3]; exact s0) (by rw [e3]; exact s1) (zfp_of k1 (zE_X rfl))
theorem zhouse {S : Nat × (Nat → Int32)} {h : mH} (hT : zHp [] zT1 h) (hO : zOm h) : mi_T mi_P S 10 170 (0, mi_ent 0 [.ref 469], []) h (zhQ h) := by
  have ho := zT0_obj (zT10 hT)
  have tb : 0 ≤ zI h 469 2 ∧ zI h 469 2 ≤ 1600 := zI_cb hT (k := 469) (e := zK 2) (by decide +kernel) zE_K (by omega) (by rw [show zlen zT1 469 = 73 by decide +kernel]; omega)
  have hR : zRS (fun k => zsm zhW0 h k) [zI h 469 2] zh0 [(170, (0, mi_ent 0 [.ref 469], []))] h := by
    have hSt : zSt [zI h 469 2] [.inr (.inl 469)] [.ref 469] := zSt_k ⟨rfl, rfl⟩ rfl
    exact ⟨⟨_, _, [], rfl, zent_ok 0 hSt, rfl, rfl⟩, zads_ok (sp := [(469, 73, zK 2, .inl (zX 0))]) (zHp_mono _ hT) zh_c0 ⟨⟨2, zE_K, by omega, by omega, zE_X rfl⟩, trivial⟩, zEn_mk (zB_cons tb.1 tb.2 zB_nil) zFa_nil, zsm_rf⟩
  have main := zseg (S := S) (Q := zhQ h) (tg := [(zhL, [zX 0, zK 0], [])]) (fin := znF) (fun h1 h2 q z => zsm_tr q z (fun _ _ z => z)) znC_ok zh_1' hR ?_ (fun s hs => by cases hs)
  · exact main
  · intro F hFF r1 rc fs1 h1 q1 q2 q3
    have hFF := List.mem_singleton.mp hFF
    subst hFF
    have e := zGe_eq0 (l := [zI h 469 2, 0]) q1 q2 (zGe_cons (zE_X rfl) (zGe_cons zE_K zGe_nil))
    subst e
    obtain ⟨k1, k2, k3, k4⟩ := q3
    have hT1 : zHp [] zT1 h1 := zHp_T k3 zh_tL k2
    have ck := zh_kL
    rw [Bool.and_eq_true] at ck
    have e3 : zI h1 469 3 = zI h 469 2 := zI_ck k2 ck.1 zE_K (zE_X rfl)
    have e4 : zI h1 469 4 = 0 := zI_ck k2 ck.2 zE_K zE_K
    exact zhcopy ho _ 0 h1 fs1 (Nat.le_refl _) hT1 (zOm_st (W := zhW0) (by decide +kernel) h h1 hO k4) k4 e4 (by omega) (by omega) (by rw [e3]; exact tb.1) (by rw [e3]; exact tb.2) (zfp_of k1 (zE_X rfl))
theorem zh_po : zfpo 2 [(0, 40), (0, 40)] (zads zT1 [(469, 73, zK 53, .inl (zX 2)), (469, 73, zK 54, .inl (zX 3))]) ([(0, 40), (0, 40), (0, 40), (0, 40), (-2147483648, 2147483647)], [(-40, [(2, 1), (3, 1)])], []) (some (.inl (zX 4))) (zq_170000_0, [.inr (469, (53, [])), .inr (469, (54, []))]) = true := by decide +kernel
/-- the contract of house() -/
theorem zt_170000 {S : Nat × (Nat → Int32)} : zCtr mi_P S zOm zc_170000 := by
  refine ⟨by decide +kernel, fun D hD r as h hO hB hF hA hH => mi_T_d hD ?_⟩
  have hB : zB [(0, 40), (0, 40)] r := hB
  have hT : zHp [] zT1 h := zHp_T (en := ([(0, 40), (0, 40)], [], [])) (zEn_mk hB zFa_nil) (by decide +kernel) hH
  obtain ⟨x0, r1, rfl, p0, p1, hB1⟩ := zB_uncons hB
  obtain ⟨x1, r2, rfl, p2, p3, hB2⟩ := zB_uncons hB1
  have := zB_unnil hB2
  subst this
  have f1 := zFa_hd hF (zE_2 rfl rfl)
  have e53 : zI h 469 53 = x0 := zI_ck hH (k := 469) (e := zK 53) (d := zX 0) (by decide +kernel) zE_K (zE_X rfl)
  have e54 : zI h 469 54 = x1 := zI_ck hH (k := 469) (e := zK 54) (d := zX 1) (by decide +kernel) zE_K (zE_X rfl)
  obtain ⟨y, as1, rfl, hy, ha⟩ := hA
  have ha : as1 = [] := ha
  subst ha
  have hy : y = .ref 469 := hy
  subst hy
  refine mi_T_mono (zhouse (S := S) hT hO) ?_
  rintro x h' ⟨⟨i, rfl⟩, hsm, hT', hO', alt⟩
  refine ⟨⟨zsm_tr zsm_rf hsm (zwle_ok (by decide +kernel)), zdfc_ok (t := zT1) (by decide +kernel) hT', ?_⟩, hO'⟩
  have hb : 0 ≤ zI h' 469 53 ∧ zI h' 469 53 ≤ 40 ∧ 0 ≤ zI h' 469 54 ∧ zI h' 469 54 ≤ 40 ∧ zI h' 469 53 + zI h' 469 54 ≤ 40 := by
    rcases alt with q | q <;> omega
  have hE : zEn ([(0, 40), (0, 40), (0, 40), (0, 40), (-2147483648, 2147483647)], [(-40, [(2, 1), (3, 1)])], []) ([x0, x1] ++ [zI h' 469 53, zI h' 469 54, i.toInt]) := zEn_mk (zB_cons p0 p1 (zB_cons p2 p3 (zB_cons (by omega) (by omega) (zB_cons (by omega) (by omega) (zB_cons (zI_b i).1 (zI_b i).2 zB_nil))))) (zFa_cons (zE_2 rfl rfl) (by omega) zFa_nil)
  have hH' : zHp ([x0, x1] ++ [zI h' 469 53, zI h' 469 54, i.toInt]) (zads zT1 [(469, 73, zK 53, .inl (zX 2)), (469, 73, zK 54, .inl (zX 3))]) h' := zads_ok (sp := [(469, 73, zK 53, .inl (zX 2)), (469, 73, zK 54, .inl (zX 3))]) (zHp_mono ([x0, x1] ++ [zI h' 469 53, zI h' 469 54, i.toInt]) hT') (by decide +kernel) ⟨⟨53, zE_K, by omega, by omega, zE_X rfl⟩, ⟨54, zE_K, by omega, by omega, zE_X rfl⟩, trivial⟩
  obtain ⟨s, q1, q2, q3, q4⟩ := zfpo_ok (np := 0) (r0 := [x0, x1]) (bd := [(0, 40), (0, 40)]) (v := some (.inl (zX 4))) (x := some (.int i)) (p := (zq_170000_0, [.inr (469, (53, [])), .inr (469, (54, []))])) hE hH' ⟨_, rfl, zR_mkI (zE_X rfl)⟩ zh_po
  exact ⟨zq_170000_0, List.mem_singleton_self _, s, q1, q2, q3, q4⟩
