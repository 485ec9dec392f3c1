/-- LModel.oddsOf(I)I -/
def zw_203000 : zW := .leaf (495, [0])
def zp_203000 : List (zPo × List (Nat ⊕ (Nat × zL))) := [(([], [], [(494, [])], some (.inr (.inr (.inr (.inl (0, 100)))))), [])]
def zc_203000 : zCt := (203, 3, [.inr (.inl 469), .inl (0, [(0, 1)])], [(0, 3), (0, 1), (0, 4)], [(1, [(0, 1), (2, (-1))])], .branch 487 (.branch 480 (.branch 479 (.leaf (470, 112, 73, .inr 3, [((18, []), .inr (.inl 479)), ((19, []), .inr (.inl 480)), ((22, []), .inr (.inl 483)), ((25, []), .inr (.inl 486)), ((26, []), .inr (.inl 487)), ((29, []), .inr (.inl 490)), ((30, []), .inr (.inl 491)), ((33, []), .inr (.inl 494)), ((34, []), .inl (0, [(1, 1)])), ((40, []), .inr (.inl 495))])) (.leaf (480, 0, 2, .inl (0, 4), [((0, [(1, 1)]), .inl (0, [(2, 1)]))]))) (.branch 483 (.leaf (481, 0, 2, .inl (0, 12), [])) (.branch 486 (.leaf (484, 0, 24, .inl ((-2147483648), 2147483647), [])) (.leaf (487, 0, 8, .inl (0, 1120), []))))) (.branch 491 (.branch 490 (.leaf (488, 0, 8, .inl (0, 1120), [])) (.leaf (491, 0, 1120, .inl ((-2147483648), 2147483647), []))) (.branch 494 (.leaf (492, 0, 1120, .inl ((-2147483648), 2147483647), [])) (.branch 495 (.leaf (495, 0, 60, .inl ((-2147483648), 2147483647), [])) (.leaf (496, 0, 69, .inr 2, []))))), zw_203000, [.inl 1, .inr (469, (34, [])), .inr (479, (0, [(1, 1)]))], zp_203000.map (fun p => p.1))
/-! oddsOf, by hand -/
def zoS : List zCt := [zc_2000]
noncomputable def zoL : zCl := fun d y as t en => zcal zw_203000 d y as t en zoS
noncomputable def zoT : zT := zad (zad zc_203000.2.2.2.2.2.1 486 (0, [(0, 1), (1, 4)]) (.inl (zX 3))) 487 (0, [(0, 1), (1, 4)]) (.inl (zX 4))
noncomputable def zoE : zS := ([(203, 0, [(0, .inr (.inl 469)), (1, .inl (zX 0))], [])], zoT, [(0, 3), (0, 1), (0, 4), (0, 1120), (0, 1120)], [(1, [(0, 1), (2, -1)])], [])
noncomputable def zoH : zS := ([(203, 12, [(3, .inl (zX 5)), (2, .inl (zX 6)), (1, .inl (zX 0)), (0, .inr (.inl 469))], [])], zoT, [(0, 3), (0, 1), (0, 4), (0, 1120), (0, 1120), (0, 1120), (0, 60)], [(1, [(0, 1), (2, -1)])], [])
noncomputable def zoX : zS := (zoH.1, zoT, zoH.2.2.1, [(0, [(4, 1), (5, -1)]), (1, [(0, 1), (2, -1)])], [])
noncomputable def zoC (lo hi nlo nhi : Int) : zS := (zoH.1, zad zoT 490 (zX 5) (.inl (zX 7)), [(0, 3), (0, 1), (0, 4), (0, 1120), (0, 1120), (0, 1119), (nlo, nhi), (lo, hi)], [(1, [(4, -1), (5, 1)]), (1, [(0, 1), (2, -1)])], [])
noncomputable def zoF (s : zS) : Bool := zfin mi_P 3 zc_203000.2.2.2.1 zc_203000.2.2.2.2.2.1 zp_203000 s
def zoN : List (Nat × Nat) := [(206, 15), (206, 23), (206, 52), (206, 54), (206, 60), (206, 62)]
noncomputable def zoR (F : List zTg) (s : zS) : Bool := zrun (zstep mi_P 3 zw_203000 false zoN [] zoL) (fun s => F.any (zstg s) || zoF s) 3000 [s]
noncomputable def zoG (d : Int) : List zTg := [(zoH, [zX 0, zX 1, zX 2, zX 3, zX 4, zac (zX 5) 1, zac (zX 6) d], [])]
theorem zo_0 : zoR [(zoH, [zX 0, zX 1, zX 2, zX 3, zX 4, zX 3, zK 0], [])] zoE = true := by decide +kernel
theorem zo_1 : zoR [] zoX = true := by decide +kernel
theorem zo_2 : zoR (zoG 1) (zoC 97 122 0 59) = true := by decide +kernel
theorem zo_3 : zoR (zoG 0) (zoC 126 126 1 60) = true := by decide +kernel
theorem zo_4 : zoR (zoG (-1)) (zoC (-2147483648) 96 2 60) = true := by decide +kernel
theorem zo_5 : zoR (zoG (-1)) (zoC 123 125 2 60) = true := by decide +kernel
theorem zo_6 : zoR (zoG (-1)) (zoC 127 2147483647 2 60) = true := by decide +kernel
theorem zt_203000 {S : Nat × (Nat → Int32)} : zCtr mi_P S zOm zc_203000 := by
  refine ⟨by decide +kernel, fun D hD r as h hO hB hF hA hH => mi_T_d hD ?_⟩
  have hB : zB [(0, 3), (0, 1), (0, 4)] r := hB
  obtain ⟨s, r1, rfl, s0, s1, hB⟩ := zB_uncons hB
  obtain ⟨b, r2, rfl, b0, b1, hB⟩ := zB_uncons hB
  obtain ⟨ns, r3, rfl, n0, n1, hB⟩ := zB_uncons hB
  have := zB_unnil hB
  subst this
  have hF : zFa [(1, [(0, 1), (2, -1)])] [s, b, ns] := hF
  have hsn : s < ns := by
    have := zFa_hd hF (zE_2 rfl rfl)
    omega
  have eb : zI h 469 34 = b := zI_ck hH (k := 469) (e := zK 34) (d := zX 1) (by decide +kernel) zE_K (zE_X rfl)
  have en : zI h 479 b = ns := zI_ck hH (k := 479) (e := zX 1) (d := zX 2) (by decide +kernel) (zE_X rfl) (zE_X rfl)
  have hOm := hO
  obtain ⟨ho, hr⟩ := hO
  obtain ⟨N, H, hto, hhg, -, -⟩ := hr s s0 (by rw [eb, en]; exact hsn)
  rw [eb] at hto hhg
  have l8 : zlen zc_203000.2.2.2.2.2.1 486 = 8 ∧ zlen zc_203000.2.2.2.2.2.1 487 = 8 := by decide +kernel
  have hix : zE [s, b, ns] (0, [(0, 1), (1, 4)]) (4 * b + s) := zE_v (zE_2 rfl rfl) (by omega)
  have bF := zI_cb hH (k := 486) (e := (0, [(0, 1), (1, 4)])) (lo := 0) (hi := 1120) (by decide +kernel) hix (by omega) (by rw [l8.1]; omega)
  have bT := zI_cb hH (k := 487) (e := (0, [(0, 1), (1, 4)])) (lo := 0) (hi := 1120) (by decide +kernel) hix (by omega) (by rw [l8.2]; omega)
  obtain ⟨fr, hfr⟩ : ∃ x, x = zI h 486 (4 * b + s) := ⟨_, rfl⟩
  obtain ⟨to, hto'⟩ : ∃ x, x = zI h 487 (4 * b + s) := ⟨_, rfl⟩
  rw [← hfr] at hto hhg bF
  rw [← hto'] at hto bT
  have hH5 : zHp [s, b, ns, fr, to] zoT h := by
    have h1 : zHp ([s, b, ns] ++ [fr, to]) zc_203000.2.2.2.2.2.1 h := zHp_mono [fr, to] hH
    have hix5 : zE ([s, b, ns] ++ [fr, to]) (0, [(0, 1), (1, 4)]) (4 * b + s) := zE_mono _ hix
    have h2 := zad_int (k := 486) (i := 3) h1 (by decide +kernel) hix5 (by omega) (by rw [l8.1]; omega) (by rw [← hfr]; rfl)
    exact zad_int (k := 487) (i := 4) h2 (by decide +kernel) hix5 (by omega) (by rw [show zlen (zad zc_203000.2.2.2.2.2.1 486 (0, [(0, 1), (1, 4)]) (.inl (zX 3))) 487 = 8 by decide +kernel]; omega) (by rw [← hto']; rfl)
  have hJ : ∀ h1 h2, zsm zw_203000 h h1 → zsm zw_203000 h1 h2 → zsm zw_203000 h h2 := fun h1 h2 q z => zsm_tr q z (fun _ _ z => z)
  have hcal : zClO mi_P S (fun h' => zsm zw_203000 h h') zoL := zclT (W := zw_203000) hJ (fun _ _ z => z) (by
    intro c hc
    rw [List.mem_singleton.mp hc]
    exact zt_2000)
  have hst := zOm_st (W := zw_203000) (by decide +kernel)
  have hfin : ∀ st, zoF st = true → ∀ r1 fs h', zRS (fun h' => zsm zw_203000 h h') ([s, b, ns] ++ r1) st fs h' → zKK mi_P S 3 (fun x h' => zQo zc_203000.2.2.2.1 zc_203000.2.2.2.2.2.2.1 zc_203000.2.2.2.2.2.1 zc_203000.2.2.2.2.2.2.2.2 [s, b, ns] h x h' ∧ zOm h') fs h' := by
    intro st hf r1 fs h' hR
    exact zfinQ (r := [s, b, ns]) hf hR (fun x q1 q2 => ⟨⟨hR.2.2.2, q1, q2⟩, hst _ _ hOm hR.2.2.2⟩)
  have loop : ∀ (d i : Nat), i + d = N → ∀ n, zhg (zI h 490) fr i n → ∀ fs h', zRS (fun h' => zsm zw_203000 h h') [s, b, ns, fr, to, fr + i, n] zoH fs h' → zKK mi_P S 3 (fun x h' => zQo zc_203000.2.2.2.1 zc_203000.2.2.2.2.2.2.1 zc_203000.2.2.2.2.2.1 zc_203000.2.2.2.2.2.2.2.2 [s, b, ns] h x h' ∧ zOm h') fs h' := by
    intro d
    induction d with
    | zero =>
      intro i hi n hn fs h' hR
      have hR2 : zRS (fun h' => zsm zw_203000 h h') [s, b, ns, fr, to, fr + i, n] zoX fs h' := ⟨hR.1, hR.2.1, zEn_mk hR.2.2.1.1 (zFa_cons (zE_2 rfl rfl) (by omega) hR.2.2.1.2.1), hR.2.2.2⟩
      exact zseg (tg := []) (fin := zoF) hJ hcal zo_1 hR2 (fun F hF => by cases hF) (fun st hf r1 fs h' hR => hfin st hf ([fr, to, fr + i, n] ++ r1) fs h' hR)
    | succ d ih =>
      intro i hi n hn fs h' hR
      have hc : zI h' 490 (fr + i) = zI h 490 (fr + i) := zI_sm hR.2.2.2 (by decide +kernel) _
      obtain ⟨n', hn'⟩ := zhg_pre hhg (i := i + 1) (by omega)
      have hn2 := hn'
      obtain ⟨K, k1, k2⟩ := hn'
      have := zhg_fun k1 hn
      subst this
      have nb := zhg_b hn
      have nb' := zhg_b hn2
      have cb : -2147483648 ≤ zI h' 490 (fr + i) ∧ zI h' 490 (fr + i) ≤ 2147483647 := zI_cb hR.2.1 (k := 490) (e := zX 5) (by decide +kernel) (zE_X rfl) (by omega) (by rw [show zlen zoH.2.1 490 = 1120 by decide +kernel]; omega)
      obtain ⟨c, hcc⟩ : ∃ x, x = zI h' 490 (fr + i) := ⟨_, rfl⟩
      rw [← hc, ← hcc] at k2
      rw [← hcc] at cb
      have go : ∀ (lo hi nlo nhi dl : Int), zoR (zoG dl) (zoC lo hi nlo nhi) = true → lo ≤ c → c ≤ hi → nlo ≤ K → K ≤ nhi → n' = K + dl → zKK mi_P S 3 (fun x h' => zQo zc_203000.2.2.2.1 zc_203000.2.2.2.2.2.2.1 zc_203000.2.2.2.2.2.1 zc_203000.2.2.2.2.2.2.2.2 [s, b, ns] h x h' ∧ zOm h') fs h' := by
        intro lo hi nlo nhi dl hrun c1 c2 d1 d2 hd
        have hR2 : zRS (fun h' => zsm zw_203000 h h') [s, b, ns, fr, to, fr + i, K, c] (zoC lo hi nlo nhi) fs h' := by
          refine ⟨zFs_mono [c] hR.1, ?_, zEn_mk ?_ ?_, hR.2.2.2⟩
          · have h1 : zHp ([s, b, ns, fr, to, fr + i, K] ++ [c]) zoT h' := zHp_mono [c] hR.2.1
            exact zad_int (k := 490) (i := 7) (j := fr + i) h1 (by decide +kernel) (zE_X rfl) (by omega) (by rw [show zlen zoT 490 = 1120 by decide +kernel]; omega) (by rw [← hcc]; rfl)
          · exact zB_cons s0 s1 (zB_cons b0 b1 (zB_cons n0 n1 (zB_cons bF.1 bF.2 (zB_cons bT.1 bT.2 (zB_cons (by omega) (by omega) (zB_cons d1 d2 (zB_cons c1 c2 zB_nil)))))))
          · exact zFa_cons (zE_2 rfl rfl) (by omega) (zFa_cons (zE_2 rfl rfl) (by omega) zFa_nil)
        refine zseg (tg := zoG dl) (fin := zoF) hJ hcal hrun hR2 ?_ (fun st hf r1 fs h' hR => hfin st hf ([fr, to, fr + i, K, c] ++ r1) fs h' hR)
        intro F hF r1 rc fs2 h2 q1 q2 q3
        have hF := List.mem_singleton.mp hF
        subst hF
        have := zGe_eq0 (l := [s, b, ns, fr, to, fr + (i + 1 : Nat), n']) q1 q2 (zGe_cons (zE_X rfl) (zGe_cons (zE_X rfl) (zGe_cons (zE_X rfl) (zGe_cons (zE_X rfl) (zGe_cons (zE_X rfl) (zGe_cons (zE_ac (c := 1) (x := fr + i) (zE_X rfl) |> (fun z => by rw [show fr + (i + 1 : Nat) = fr + i + 1 by omega]; exact z)) (zGe_cons (by rw [hd]; exact zE_ac (c := dl) (x := K) (zE_X rfl)) zGe_nil)))))))
        subst this
        exact ih (i + 1) (by omega) n' hn2 fs2 h2 q3
      rcases k2 with k2 | k2 | k2
      · exact go 126 126 1 60 0 zo_3 (by omega) (by omega) (by omega) (by omega) (by omega)
      · exact go 97 122 0 59 1 zo_2 (by omega) (by omega) (by omega) (by omega) (by omega)
      · rcases (by omega : c ≤ 96 ∨ (123 ≤ c ∧ c ≤ 125) ∨ 127 ≤ c) with z | z | z
        · exact go (-2147483648) 96 2 60 (-1) zo_4 (by omega) (by omega) (by omega) (by omega) (by omega)
        · exact go 123 125 2 60 (-1) zo_5 (by omega) (by omega) (by omega) (by omega) (by omega)
        · exact go 127 2147483647 2 60 (-1) zo_6 (by omega) (by omega) (by omega) (by omega) (by omega)
  obtain ⟨x, as1, rfl, hx, y, as2, rfl, ⟨i, rfl, hi⟩, h2⟩ := hA
  have h2 : as2 = [] := h2
  subst h2
  have hx : x = .ref 469 := hx
  subst hx
  have hRE : zRS (fun h' => zsm zw_203000 h h') [s, b, ns, fr, to] zoE [(203, (0, mi_ent 0 [.ref 469, .int i], []))] h := by
    refine ⟨⟨_, _, [], rfl, ?_, rfl, rfl⟩, hH5, zEn_mk (zB_cons s0 s1 (zB_cons b0 b1 (zB_cons n0 n1 (zB_cons bF.1 bF.2 (zB_cons bT.1 bT.2 zB_nil))))) (zFa_cons (zE_2 rfl rfl) (by omega) zFa_nil), zsm_rf⟩
    have hSt : zSt [s, b, ns, fr, to] [.inr (.inl 469), .inl (zX 0)] [.ref 469, .int i] := zSt_k ⟨rfl, rfl⟩ (zSt_k (zR_mkI (zE_mono [fr, to] hi)) rfl)
    exact zent_ok 0 hSt
  have := zseg (Q := fun x h' => zQo zc_203000.2.2.2.1 zc_203000.2.2.2.2.2.2.1 zc_203000.2.2.2.2.2.1 zc_203000.2.2.2.2.2.2.2.2 [s, b, ns] h x h' ∧ zOm h') (tg := [(zoH, [zX 0, zX 1, zX 2, zX 3, zX 4, zX 3, zK 0], [])]) (fin := zoF) hJ hcal zo_0 hRE (by
    intro F hF r1 rc fs2 h2 q1 q2 q3
    have hF := List.mem_singleton.mp hF
    subst hF
    have := zGe_eq0 (l := [s, b, ns, fr, to, fr + (0 : Nat), 0]) q1 q2 (zGe_cons (zE_X rfl) (zGe_cons (zE_X rfl) (zGe_cons (zE_X rfl) (zGe_cons (zE_X rfl) (zGe_cons (zE_X rfl) (zGe_cons (zE_v (zE_X rfl) (by omega)) (zGe_cons zE_K zGe_nil)))))))
    subst this
    exact loop N 0 (by omega) 0 rfl fs2 h2 q3) (fun st hf r1 fs h' hR => hfin st hf ([fr, to] ++ r1) fs h' hR)
  exact this
