/-! unit(), by hand out of its contracts -/
theorem zB_tail {bd nb : zBd} {r s : List Int} (hl : bd.length = r.length) (h : zB (bd ++ nb) (r ++ s)) : zB nb s := by
  refine ⟨by have := h.1; rw [List.length_append, List.length_append] at this; omega, fun k b hk => ?_⟩
  obtain ⟨x, h1, h2⟩ := h.2 (bd.length + k) b (by rw [List.getElem?_append_right (by omega)]; rw [Nat.add_sub_cancel_left]; exact hk)
  refine ⟨x, ?_, h2⟩
  rw [hl, List.getElem?_append_right (by omega), Nat.add_sub_cancel_left] at h1
  exact h1
theorem zRt_K {r : List Int} {c : Int} {x : Option Value} (h : zRt r (some (.inl (c, []))) x) : ∃ i : Int32, x = some (.int i) ∧ i.toInt = c := by
  obtain ⟨y, rfl, i, rfl, h1⟩ := h
  exact ⟨i, rfl, zE_Kx h1⟩
theorem zcallT {S : Nat × (Nat → Int32)} {D : Nat} {ct : zCt} {W : zW} {en : zN} {t : zT} {as : List zV} {xs : List Value} {r : List Int} {h : mH} (hct : zCtr mi_P S zTt ct) (hD : ct.2.1 ≤ D) (hq : (match zap W en t as ct with
    | some q => q.all (fun w => ztle w.2.2 [] w.2.1 zT0)
    | none => false) = true) (hE : zEn en r) (hH : zHp r t h) (hs : zSt r as xs) : mi_T mi_P S D ct.1 (0, mi_ent 0 xs, []) h (fun _ h' => zsm W h h' ∧ zHp [] zT0 h') := by
  split at hq
  · rename_i q hz
    refine mi_T_mono (zap_ok hct hD trivial hE hH hs hz) ?_
    rintro x h' ⟨k1, -, w, hw, s, f1, f2, f3⟩
    exact ⟨k1, zHp_T f1 (List.all_eq_true.mp hq w hw) f2⟩
  · cases hq
/-- what the reading of a rule may write -/
def zWr : zW := .branch 481 (.leaf (470, [4, 5, 6, 7, 8, 9, 10, 36, 37, 38, 39])) (.branch 491 (.branch 490 (.leaf (482, [0])) (.leaf (491, [0]))) (.branch 492 (.leaf (492, [0])) (.branch 493 (.leaf (493, [0])) (.leaf (494, [0])))))
/-- what the reading of a rule leaves as it was -/
def zFr (b n0 : Int) (h h' : mH) : Prop := zsm zWr h h' ∧ ∀ j : Int, 0 ≤ j → j < 1120 → (j < n0 ∨ 560 * b + 560 ≤ j) → zI h' 490 j = zI h 490 j
theorem zFr_rf {b n0 : Int} {h : mH} : zFr b n0 h h := ⟨zsm_rf, fun _ _ _ _ => rfl⟩
theorem zFr_tr {b n0 : Int} {h h1 h2 : mH} (a : zFr b n0 h h1) (c : zFr b n0 h1 h2) : zFr b n0 h h2 := ⟨zsm_tr a.1 c.1 (fun _ _ z => z), fun j x y z => (c.2 j x y z).trans (a.2 j x y z)⟩
theorem zT0_obj {h : mH} (hT : zHp [] zT0 h) : zobj h 469 := by
  have hc : (match zget zT0 469 with
    | some c => Nat.ble 100 c.1
    | none => false) = true := by decide +kernel
  split at hc
  · rename_i c hz
    exact zobj_of hT hz (e_ble.mp hc)
  · cases hc
def zuSp : zSt0 := [(469, 73, zK 8, .inr (.inr (.inr (.inl (1, 5))))), (469, 73, zK 6, .inl (zX 0)), (469, 73, zK 7, .inl (zX 1)), (469, 73, zK 3, .inl (zX 2)), (469, 73, zK 35, .inl (zX 3)), (469, 73, zK 38, .inl (zX 4)), (469, 73, zK 36, .inl (zX 5)), (481, 2, zX 3, .inl (zX 6)), (469, 73, zK 39, .inl (zX 7)), (469, 73, zK 37, .inl (zX 8)), (469, 73, zK 4, .inl (zK 0))]
noncomputable def zuT : zT := zads zT0 zuSp
def zuB : zBd := [(0, 1600), (0, 1600), (0, 1600), (0, 1), (1, 60), (0, 1119), (0, 60), (0, 30), (0, 7)]
def zuF : List zL := [(1, [(0, 1), (1, -1)]), (0, [(1, 1), (2, -1)])]
def zuR (h : mH) : List Int := [zI h 469 6, zI h 469 7, zI h 469 3, zI h 469 35, zI h 469 38, zI h 469 36, zI h 481 (zI h 469 35), zI h 469 39, zI h 469 37]
theorem zu_c : zadc zT0 zuSp = true := by decide +kernel
theorem zu_s {h : mH} (r : List Int) (hA : zTA h) (hf : zI h 469 4 = 0) (hb : zI h 469 35 = 0 ∨ zI h 469 35 = 1) : zSp (zuR h ++ r) h zuSp :=
  ⟨⟨8, zE_K, by omega, by omega, hA.1, hA.2.1⟩, ⟨6, zE_K, by omega, by omega, zE_X rfl⟩, ⟨7, zE_K, by omega, by omega, zE_X rfl⟩, ⟨3, zE_K, by omega, by omega, zE_X rfl⟩, ⟨35, zE_K, by omega, by omega, zE_X rfl⟩, ⟨38, zE_K, by omega, by omega, zE_X rfl⟩, ⟨36, zE_K, by omega, by omega, zE_X rfl⟩, ⟨zI h 469 35, zE_X rfl, by omega, by omega, zE_X rfl⟩, ⟨39, zE_K, by omega, by omega, zE_X rfl⟩, ⟨37, zE_K, by omega, by omega, zE_X rfl⟩, ⟨4, zE_K, by omega, by omega, by rw [hf]; exact zE_K⟩, trivial⟩
theorem zu_H {h : mH} (r : List Int) (hT : zHp [] zT0 h) (hA : zTA h) (hf : zI h 469 4 = 0) (hb : zI h 469 35 = 0 ∨ zI h 469 35 = 1) : zHp (zuR h ++ r) zuT h := zads_ok (zHp_mono (zuR h ++ r) hT) zu_c (zu_s r hA hf hb)
/-- numbers out of what is so while a rule is read -/
theorem zGp_b {w b n0 : Int} {h : mH} (hb : b = 0 ∨ b = 1) (hw : w = 0 ∨ w = 1) (hG : zGp w b n0 h) : 1 ≤ zI h 469 38 ∧ zI h 469 38 ≤ 60 ∧ 0 ≤ zI h 469 36 ∧ zI h 469 36 ≤ 560 * b + 547 ∧ 0 ≤ zI h 481 b ∧ zI h 481 b ≤ 60 ∧ 0 ≤ zI h 469 39 ∧ zI h 469 39 ≤ 30 ∧ 0 ≤ zI h 469 37 ∧ zI h 469 37 ≤ 7 ∧ n0 ≤ zI h 469 36 := by
  obtain ⟨k, N, nb, nn, nr, H, g1, g2, g3, g4, g5, g6, g7, g8, g9, g10, g11, g12, g13, g14, g15⟩ := hG
  have p := zpl_b g3
  have q := zhg_b g7
  rcases hw with rfl | rfl
  · have := g15 rfl
    omega
  · have := g14 rfl
    omega
theorem zu_B {h : mH} (hA : zTA h) (hb : zI h 469 35 = 0 ∨ zI h 469 35 = 1) {w n0 : Int} (hw : w = 0 ∨ w = 1) (hG : zGp w (zI h 469 35) n0 h) : zB zuB (zuR h) := by
  obtain ⟨a1, a2, a3, a4, a5, a6⟩ := hA
  obtain ⟨b1, b2, b3, b4, b5, b6, b7, b8, b9, b10, b11⟩ := zGp_b hb hw hG
  exact zB_cons (by omega) (by omega) (zB_cons (by omega) (by omega) (zB_cons (by omega) (by omega) (zB_cons (by omega) (by omega) (zB_cons (by omega) (by omega) (zB_cons (by omega) (by omega) (zB_cons (by omega) (by omega) (zB_cons (by omega) (by omega) (zB_cons (by omega) (by omega) zB_nil))))))))
theorem zu_F {h : mH} (r : List Int) (hA : zTA h) : zFa zuF (zuR h ++ r) := by
  obtain ⟨a1, a2, a3, a4, a5, a6⟩ := hA
  exact zFa_cons (zE_2 rfl rfl) (by omega) (zFa_cons (zE_2 rfl rfl) (by omega) zFa_nil)
theorem zB_more {bd nb : zBd} {r s : List Int} (h1 : zB bd r) (h2 : zB nb s) : zB (bd ++ nb) (r ++ s) := by
  refine ⟨by rw [List.length_append, List.length_append, h1.1, h2.1], fun k b hk => ?_⟩
  rcases Nat.lt_or_ge k bd.length with hl | hl
  · rw [List.getElem?_append_left hl] at hk
    obtain ⟨x, g1, g2⟩ := h1.2 k b hk
    exact ⟨x, by rw [List.getElem?_append_left (by rw [← h1.1]; exact hl)]; exact g1, g2⟩
  · rw [List.getElem?_append_right hl] at hk
    obtain ⟨x, g1, g2⟩ := h2.2 _ b hk
    exact ⟨x, by rw [List.getElem?_append_right (by rw [← h1.1]; exact hl), ← h1.1]; exact g1, g2⟩
/-- behind a call while a rule is read -/
def zRp (v b n0 : Int) (h : mH) (x : Option Value) (h' : mH) : Prop := zHp [] zT0 h' ∧ zFr b n0 h h' ∧ (((∃ i : Int32, x = some (.int i)) ∧ 1 ≤ zI h' 469 4 ∧ zI h' 469 4 ≤ 4 ∧ ∃ (N : Nat) (H : Int), zI h' 469 36 = n0 + N ∧ zhg (zI h' 490) n0 N H ∧ zI h' 469 36 ≤ 560 * b + 547) ∨
  (zI h' 469 4 = 0 ∧ (zTA h' ∧ zI h 469 6 < zI h' 469 6 ∧ zI h' 469 3 = zI h 469 3 ∨ zTB h' ∧ zI h 469 6 < zI h' 469 6 ∧ zI h' 469 3 = zI h 469 3 ∨ v = 0 ∧ zI h' 469 38 = 0 ∧ zI h' 469 3 = zI h 469 3 ∧ zI h' 469 6 = zI h 469 6 ∧ zI h' 469 7 = zI h 469 7 ∧ zI h' 469 8 = zI h 469 8) ∧ ∃ i : Int32, x = some (.int i) ∧ (i.toInt = 1 ∧ zGp 1 b n0 h' ∨ i.toInt = 0 ∧ zGp 0 b n0 h' ∨ zI h' 469 38 = 0 ∧ (∃ (N : Nat) (H : Int), zI h' 469 36 = n0 + N ∧ zhg (zI h' 490) n0 N H ∧ zI h' 469 36 ≤ 560 * b + 9 * zI h' 481 b) ∧ 0 ≤ zI h' 481 b ∧ zI h' 481 b ≤ 60)))
theorem zu_q : (match zap zw_3013 (zuB, zuF, []) zuT [.inr (.inl 469)] zc_3013 with
    | some q => q.all (fun w => ztle w.2.2 [] w.2.1 zT0)
    | none => false) = true := by decide +kernel
theorem zu_l0 : ztle (zuB, [], []) (znew 0 9) zuT zc_3013.2.2.2.2.2.1 = true := by decide +kernel
def zuB1 : zBd := [(0, 89), (0, 8), (0, 89), (-2147483648, 2147483647)]
def zuS1 : zSt0 := [(492, 90, zX 9, .inl (zX 10)), (493, 90, zX 11, .inl (zX 12))]
theorem zu_c1 : zadc zuT zuS1 = true := by decide +kernel
theorem zu_l1 : ztle (zuB ++ zuB1, [], []) (znew 0 13) (zads zuT zuS1) zc_3014.2.2.2.2.2.1 = true := by decide +kernel
def zuB2 : zBd := [(0, 1119), (-2147483648, 2147483647)]
def zuS2 : zSt0 := [(490, 1120, zX 9, .inl (zX 10))]
theorem zu_c2 : zadc zuT zuS2 = true := by decide +kernel
theorem zu_l2 : ztle (zuB ++ zuB2, [], []) (znew 0 11) (zads zuT zuS2) zc_3015.2.2.2.2.2.1 = true := by decide +kernel
theorem zu_l3 : ztle (zuB ++ zuB2, [], []) (znew 0 11) (zads zuT zuS2) zc_3016.2.2.2.2.2.1 = true := by decide +kernel
theorem zT_b {h : mH} (hT : zHp [] zT0 h) {k : Nat} {lo hi j : Int} {n : Nat} (hc : (zchb zT0 k (0, []) lo hi || zchb zT0 k (1, [(0, 1)]) lo hi) = true) (hn : zlen zT0 k = n) (h0 : 0 ≤ j) (h1 : j < n) (hz : zchb zT0 k (0, [(0, 1)]) lo hi = true) : lo ≤ zI h k j ∧ zI h k j ≤ hi := by
  have h2 : zHp ([] ++ [j]) zT0 h := zHp_mono [j] hT
  exact zI_cb h2 hz (zE_X rfl) h0 (by rw [hn]; exact h1)
theorem zT_w {h : mH} (hT : zHp [] zT0 h) {j : Int} (h0 : 0 ≤ j) (h1 : j < 90) : 0 ≤ zI h 492 j ∧ zI h 492 j ≤ 8 := zT_b hT (n := 90) (by decide +kernel) (by decide +kernel) h0 h1 (by decide +kernel)
theorem zT_s {h : mH} (hT : zHp [] zT0 h) {j : Int} (h0 : 0 ≤ j) (h1 : j < 90) : -2147483648 ≤ zI h 493 j ∧ zI h 493 j ≤ 2147483647 := zT_b hT (n := 90) (by decide +kernel) (by decide +kernel) h0 h1 (by decide +kernel)
theorem zT_c {h : mH} (hT : zHp [] zT0 h) {j : Int} (h0 : 0 ≤ j) (h1 : j < 1120) : -2147483648 ≤ zI h 490 j ∧ zI h 490 j ≤ 2147483647 := zT_b hT (n := 1120) (by decide +kernel) (by decide +kernel) h0 h1 (by decide +kernel)
theorem zunit {S : Nat × (Nat → Int32)} {D : Nat} (hD : 2 ≤ D) {h : mH} {b n0 : Int} (hT : zHp [] zT0 h) (hA : zTA h) (hf : zI h 469 4 = 0) (hrb : zI h 469 35 = b) (hb : b = 0 ∨ b = 1) (hG : zGp 1 b n0 h) : mi_T mi_P S D 191 (0, mi_ent 0 [.ref 469], []) h (zRp 1 b n0 h) := by
  subst hrb
  have hB := zu_B hA hb (Or.inr rfl) hG
  have hbb := zGp_b hb (Or.inr rfl) hG
  obtain ⟨b1, b2, b3, b4, b5, b6, b7, b8, b9, b10, b11⟩ := hbb
  have hH : zHp (zuR h) zuT h := by
    have := zu_H [] hT hA hf hb
    rw [List.append_nil] at this
    exact this
  have hF : zFa zuF (zuR h) := by
    have := zu_F [] hA
    rw [List.append_nil] at this
    exact this
  have M1 := (zt_3013 (S := S)).2 D hD (zuR h) [.ref 469] h trivial hB hF ⟨_, _, rfl, rfl, rfl⟩ (zHp_le hB zu_l0 hH)
  have M2 := zcallT (D := D) (W := zw_3013) (xs := [.ref 469]) (zt_3013 (S := S)) hD zu_q (zEn_mk hB hF) hH (zSt_k (v := .inr (.inl 469)) (vs := []) ⟨rfl, rfl⟩ rfl)
  have M3 : ∀ j : Int, mi_T mi_P S D 191 (0, mi_ent 0 [.ref 469], []) h (fun _ h' => 0 ≤ j → j < zI h 469 38 → zI h' 492 j = zI h 492 j ∧ zI h' 493 j = zI h 493 j) := by
    intro j
    by_cases hj : 0 ≤ j ∧ j < zI h 469 38
    · have w1 := zT_w hT (j := j) (by omega) (by omega)
      have w2 := zT_s hT (j := j) (by omega) (by omega)
      have hB1 : zB zuB1 [j, zI h 492 j, j, zI h 493 j] := zB_cons (by omega) (by omega) (zB_cons w1.1 w1.2 (zB_cons (by omega) (by omega) (zB_cons w2.1 w2.2 zB_nil)))
      have hH1 := zads_ok (sp := zuS1) (zu_H [j, zI h 492 j, j, zI h 493 j] hT hA hf hb) zu_c1 ⟨⟨j, zE_X rfl, by omega, by omega, zE_X rfl⟩, ⟨j, zE_X rfl, by omega, by omega, zE_X rfl⟩, trivial⟩
      have hBB := zB_more hB hB1
      obtain ⟨a1, a2, a3, a4, a5, a6⟩ := hA
      have := (zt_3014 (S := S)).2 D hD (zuR h ++ [j, zI h 492 j, j, zI h 493 j]) [.ref 469] h trivial hBB (zFa_cons (zE_2 rfl rfl) (by omega) (zFa_cons (zE_2 rfl rfl) (by omega) (zFa_cons (zE_2 rfl rfl) (by omega) (zFa_cons (zE_2 rfl rfl) (by omega) zFa_nil)))) ⟨_, _, rfl, rfl, rfl⟩ (zHp_le hBB zu_l1 hH1)
      refine mi_T_mono this ?_
      rintro x h' ⟨⟨-, -, po, hpo, s, -, -, pw, -⟩, -⟩ _ _
      have hpo : po = zq_3014_0 := List.mem_singleton.mp hpo
      subst hpo
      exact ⟨zPw_ck pw (k := 492) (e := zX 9) (d := zX 10) (by decide +kernel) (zE_mono s (zE_X rfl)) (zE_mono s (zE_X rfl)), zPw_ck pw (k := 493) (e := zX 11) (d := zX 12) (by decide +kernel) (zE_mono s (zE_X rfl)) (zE_mono s (zE_X rfl))⟩
    · exact mi_T_mono M1 (fun _ _ _ a b => absurd ⟨a, b⟩ hj)
  have M4 : ∀ j : Int, mi_T mi_P S D 191 (0, mi_ent 0 [.ref 469], []) h (fun _ h' => 0 ≤ j → j < 1120 → j ≠ zI h 469 36 → zI h' 490 j = zI h 490 j) := by
    intro j
    by_cases hj : 0 ≤ j ∧ j < 1120 ∧ j ≠ zI h 469 36
    · have w1 := zT_c hT (j := j) (by omega) (by omega)
      have hB1 : zB zuB2 [j, zI h 490 j] := zB_cons (by omega) (by omega) (zB_cons w1.1 w1.2 zB_nil)
      have hH1 := zads_ok (sp := zuS2) (zu_H [j, zI h 490 j] hT hA hf hb) zu_c2 ⟨⟨j, zE_X rfl, by omega, by omega, zE_X rfl⟩, trivial⟩
      have hBB := zB_more hB hB1
      obtain ⟨a1, a2, a3, a4, a5, a6⟩ := hA
      rcases (by omega : j < zI h 469 36 ∨ zI h 469 36 < j) with hl | hl
      · have := (zt_3015 (S := S)).2 D hD (zuR h ++ [j, zI h 490 j]) [.ref 469] h trivial hBB (zFa_cons (zE_2 rfl rfl) (by omega) (zFa_cons (zE_2 rfl rfl) (by omega) (zFa_cons (zE_2 rfl rfl) (by omega) zFa_nil))) ⟨_, _, rfl, rfl, rfl⟩ (zHp_le hBB zu_l2 hH1)
        refine mi_T_mono this ?_
        rintro x h' ⟨⟨-, -, po, hpo, s, -, -, pw, -⟩, -⟩ _ _ _
        have hpo : po = zq_3015_0 := List.mem_singleton.mp hpo
        subst hpo
        exact zPw_ck pw (k := 490) (e := zX 9) (d := zX 10) (by decide +kernel) (zE_mono s (zE_X rfl)) (zE_mono s (zE_X rfl))
      · have := (zt_3016 (S := S)).2 D hD (zuR h ++ [j, zI h 490 j]) [.ref 469] h trivial hBB (zFa_cons (zE_2 rfl rfl) (by omega) (zFa_cons (zE_2 rfl rfl) (by omega) (zFa_cons (zE_2 rfl rfl) (by omega) zFa_nil))) ⟨_, _, rfl, rfl, rfl⟩ (zHp_le hBB zu_l3 hH1)
        refine mi_T_mono this ?_
        rintro x h' ⟨⟨-, -, po, hpo, s, -, -, pw, -⟩, -⟩ _ _ _
        have hpo : po = zq_3016_0 := List.mem_singleton.mp hpo
        subst hpo
        exact zPw_ck pw (k := 490) (e := zX 9) (d := zX 10) (by decide +kernel) (zE_mono s (zE_X rfl)) (zE_mono s (zE_X rfl))
    · exact mi_T_mono M1 (fun _ _ _ a b c => absurd ⟨a, b, c⟩ hj)
  refine mi_T_mono (mi_T_all (mi_T_all (mi_T_and M1 M2) M3) M4) ?_
  rintro x h' ⟨⟨⟨⟨⟨-, -, po, hpo, s, pB, pF, pw, pr⟩, -⟩, hsm, hT'⟩, e3⟩, e4⟩
  have ho := zT0_obj hT
  have e6 : zI h' 469 3 = zI h 469 3 := zI_smf (j := 3) hsm ho (by decide +kernel)
  have hFr : zFr (zI h 469 35) n0 h h' := ⟨zsm_tr zsm_rf hsm (zwle_ok (by decide +kernel)), fun j j0 j1 j2 => e4 j j0 j1 (by omega)⟩
  refine ⟨hT', hFr, ?_⟩
  obtain ⟨k, N, nb, nn, nr, H, g1, g2, g3, g4, g5, g6, g7, g8, g9, g10, g11, g12, g13, g14, g15⟩ := hG
  have g14 := g14 rfl
  have pl := zpl_b g3
  have gw0 : zI h' 492 0 = 8 := by rw [(e3 0 (by omega) (by omega)).1]; exact g2
  have gpl : zpl (zI h' 492) (zI h' 493) k nb nn nr := zpl_eq (fun j a b => e3 j (by omega) (by omega)) g3
  have gh : zhg (zI h' 490) n0 N H := zhg_eq (fun j a b => e4 j (by omega) (by omega) (by omega)) g7
  have pB : zB po.1 s := zB_tail hB.1 pB
  have hpo : po ∈ [zq_3013_0, zq_3013_1, zq_3013_2, zq_3013_3, zq_3013_4, zq_3013_5, zq_3013_6] := hpo
  simp only [List.mem_cons, List.not_mem_nil, or_false] at hpo
  have k4 : ∀ {p : zPo}, p = po → zpwk p.2.2.1 469 (zK 4) (zK 0) = true → zI h' 469 4 = 0 := fun e q => by subst e; exact zPw_ck pw q zE_K zE_K
  have kA : ∀ {p : zPo}, p = po → p.1 = [(0, 1600), (0, 1600)] → (∃ u, p.2.1 = (1, [(9, 1), (10, -1)]) :: (0, [(2, -1), (10, 1)]) :: (0, [(1, 1), (9, -1)]) :: u) → zpwk p.2.2.1 469 (zK 6) (zX 9) = true → zpwk p.2.2.1 469 (zK 7) (zX 10) = true → zpwb p.2.2.1 469 (zK 8) 1 5 = true → zTA h' ∧ zI h 469 6 < zI h' 469 6 ∧ zI h' 469 3 = zI h 469 3 := by
    intro p e q1 ⟨u, q2⟩ q3 q4 q5
    subst e
    rw [q1] at pB
    rw [q2] at pF
    obtain ⟨x1, s1, rfl, x2, x3, pB⟩ := zB_uncons pB
    obtain ⟨y1, s2, rfl, y2, y3, pB⟩ := zB_uncons pB
    have := zB_unnil pB
    subst this
    have f1 := zFa_hd pF (zE_2 rfl rfl)
    have f2 := zFa_hd (zFa_tl pF) (zE_2 rfl rfl)
    have f3 := zFa_hd (zFa_tl (zFa_tl pF)) (zE_2 rfl rfl)
    have z1 := zPw_ck pw q3 zE_K (zE_X rfl)
    have z2 := zPw_ck pw q4 zE_K (zE_X rfl)
    have z3 := zPw_cb pw q5 zE_K
    obtain ⟨a1, a2, a3, a4, a5, a6⟩ := hA
    refine ⟨⟨z3.1, z3.2, by omega, by omega, by omega, by omega⟩, by omega, e6⟩
  have kB : ∀ {p : zPo}, p = po → zpwk p.2.2.1 469 (zK 6) (zX 2) = true → zpwk p.2.2.1 469 (zK 7) (zX 2) = true → zpwk p.2.2.1 469 (zK 8) (zK 0) = true → zTB h' ∧ zI h 469 6 < zI h' 469 6 ∧ zI h' 469 3 = zI h 469 3 := by
    intro p e q3 q4 q5
    subst e
    have z1 := zPw_ck pw q3 zE_K (zE_mono s (zE_X rfl))
    have z2 := zPw_ck pw q4 zE_K (zE_mono s (zE_X rfl))
    have z3 := zPw_ck pw q5 zE_K zE_K
    obtain ⟨a1, a2, a3, a4, a5, a6⟩ := hA
    refine ⟨⟨z3, by omega, by omega, by omega, by omega⟩, by omega, e6⟩
  have kP : ∀ {p : zPo} {v : Int}, p = po → zpwk p.2.2.1 469 (zK 38) (1, [(4, 1)]) = true → zpwk p.2.2.1 469 (zK 37) (1, [(8, 1)]) = true → zpwk p.2.2.1 469 (zK 36) (zX 5) = true → zpwk p.2.2.1 492 (zX 4) (zK v) = true → zpwk p.2.2.1 493 (zX 4) (zK 126) = true → zI h' 469 38 = (k + 1 : Nat) + 1 ∧ zI h' 469 37 = zI h 469 37 + 1 ∧ zI h' 469 36 = n0 + N ∧ zI h' 492 ((k : Int) + 1) = v ∧ zI h' 493 ((k : Int) + 1) = 126 := by
    intro p v e q1 q2 q3 q4 q5
    subst e
    have z1 := zPw_ck pw q1 zE_K (zE_mono s (zE_1 rfl))
    have z2 := zPw_ck pw q2 zE_K (zE_mono s (zE_1 rfl))
    have z3 := zPw_ck pw q3 zE_K (zE_mono s (zE_X rfl))
    have z4 := zPw_ck pw q4 (zE_mono s (zE_X rfl)) zE_K
    have z5 := zPw_ck pw q5 (zE_mono s (zE_X rfl)) zE_K
    rw [g1] at z4 z5
    refine ⟨by omega, by omega, by omega, z4, z5⟩
  have kL : ∀ {p : zPo}, p = po → zpwk p.2.2.1 469 (zK 38) (zX 4) = true → zpwk p.2.2.1 469 (zK 37) (zX 8) = true → zpwk p.2.2.1 469 (zK 36) (1, [(5, 1)]) = true → zpwb p.2.2.1 490 (zX 5) 97 122 = true → zI h' 469 38 = k + 1 ∧ zI h' 469 37 = zI h 469 37 ∧ zI h' 469 36 = n0 + (N + 1 : Nat) ∧ 97 ≤ zI h' 490 (n0 + N) ∧ zI h' 490 (n0 + N) ≤ 122 := by
    intro p e q1 q2 q3 q4
    subst e
    have z1 := zPw_ck pw q1 zE_K (zE_mono s (zE_X rfl))
    have z2 := zPw_ck pw q2 zE_K (zE_mono s (zE_X rfl))
    have z3 := zPw_ck pw q3 zE_K (zE_mono s (zE_1 rfl))
    have z4 := zPw_cb pw q4 (zE_mono s (zE_X rfl))
    rw [g6] at z4
    refine ⟨by omega, by omega, by omega, z4.1, z4.2⟩
  have kU0 : ∀ {p : zPo}, p = po → zpwk p.2.2.1 481 (zX 3) (zX 6) = true → zpwk p.2.2.1 469 (zK 39) (zX 7) = true → zI h' 481 (zI h 469 35) = zI h 481 (zI h 469 35) ∧ zI h' 469 39 = zI h 469 39 := by
    intro p e q1 q2
    subst e
    exact ⟨zPw_ck pw q1 (zE_mono s (zE_X rfl)) (zE_mono s (zE_X rfl)), zPw_ck pw q2 zE_K (zE_mono s (zE_X rfl))⟩
  have kU1 : ∀ {p : zPo}, p = po → zpwk p.2.2.1 481 (zX 3) (1, [(6, 1)]) = true → zpwk p.2.2.1 469 (zK 39) (1, [(7, 1)]) = true → zI h' 481 (zI h 469 35) = zI h 481 (zI h 469 35) + 1 ∧ zI h' 469 39 = zI h 469 39 + 1 := by
    intro p e q1 q2
    subst e
    have z1 := zPw_ck pw q1 (zE_mono s (zE_X rfl)) (zE_mono s (zE_1 rfl))
    have z2 := zPw_ck pw q2 zE_K (zE_mono s (zE_1 rfl))
    exact ⟨by rw [z1]; omega, by rw [z2]; omega⟩
  -- what the facts behind those of the token say
  have kf : ∀ {f : zL} {v : Int}, f ∈ po.2.1 → zE (zuR h) f v → v ≤ 0 := by
    intro f v q1 q2
    obtain ⟨y, y1, y2⟩ := pF f q1
    rw [zE_fun (zE_mono s q2) y1]
    exact y2
  rcases hpo with e | e | e | e | e | e | e
  · have z4 := zPw_cb pw (k := 469) (e := zK 4) (lo := 1) (hi := 4) (by rw [e]; decide +kernel) zE_K
    have z5 := zPw_ck pw (k := 469) (e := zK 36) (d := zX 5) (by rw [e]; decide +kernel) zE_K (zE_mono s (zE_X rfl))
    obtain ⟨i, rfl, hi⟩ := zRt_K (c := 1) (by rw [e] at pr; exact pr)
    exact Or.inl ⟨⟨i, rfl⟩, z4.1, z4.2, N, H, by omega, gh, by omega⟩
  · obtain ⟨i, rfl, hi⟩ := zRt_K (c := 1) (by rw [e] at pr; exact pr)
    have p1 := kP (v := 3) e.symm (by decide +kernel) (by decide +kernel) (by decide +kernel) (by decide +kernel) (by decide +kernel)
    have p2 := kU0 e.symm (by decide +kernel) (by decide +kernel)
    have f1 := kf (f := (-6, [(8, 1)])) (by rw [e]; decide +kernel) (zE_1 rfl)
    refine Or.inr ⟨k4 e.symm (by decide +kernel), Or.inl (kA e.symm rfl ⟨_, rfl⟩ (by decide +kernel) (by decide +kernel) (by decide +kernel)), i, rfl, Or.inl ⟨hi, k + 1, N, nb, nn + 1, nr, H, p1.1, gw0, Or.inr (Or.inl ⟨p1.2.2.2.1, p1.2.2.2.2, by rw [show nn + 1 - 1 = nn by omega]; exact gpl⟩), by omega, by omega, p1.2.2.1, gh, g8, by omega, by omega, by omega, by omega, g13, fun _ => by omega, fun q => by omega⟩⟩
  · obtain ⟨i, rfl, hi⟩ := zRt_K (c := 1) (by rw [e] at pr; exact pr)
    have p1 := kP (v := 3) e.symm (by decide +kernel) (by decide +kernel) (by decide +kernel) (by decide +kernel) (by decide +kernel)
    have p2 := kU0 e.symm (by decide +kernel) (by decide +kernel)
    have f1 := kf (f := (-6, [(8, 1)])) (by rw [e]; decide +kernel) (zE_1 rfl)
    refine Or.inr ⟨k4 e.symm (by decide +kernel), Or.inr (Or.inl (kB e.symm (by decide +kernel) (by decide +kernel) (by decide +kernel))), i, rfl, Or.inl ⟨hi, k + 1, N, nb, nn + 1, nr, H, p1.1, gw0, Or.inr (Or.inl ⟨p1.2.2.2.1, p1.2.2.2.2, by rw [show nn + 1 - 1 = nn by omega]; exact gpl⟩), by omega, by omega, p1.2.2.1, gh, g8, by omega, by omega, by omega, by omega, g13, fun _ => by omega, fun q => by omega⟩⟩
  · obtain ⟨i, rfl, hi⟩ := zRt_K (c := 1) (by rw [e] at pr; exact pr)
    have p1 := kP (v := 7) e.symm (by decide +kernel) (by decide +kernel) (by decide +kernel) (by decide +kernel) (by decide +kernel)
    have p2 := kU1 e.symm (by decide +kernel) (by decide +kernel)
    have f1 := kf (f := (-6, [(8, 1)])) (by rw [e]; decide +kernel) (zE_1 rfl)
    have f2 := kf (f := (-59, [(6, 1)])) (by rw [e]; decide +kernel) (zE_1 rfl)
    have f3 := kf (f := (-29, [(7, 1)])) (by rw [e]; decide +kernel) (zE_1 rfl)
    refine Or.inr ⟨k4 e.symm (by decide +kernel), Or.inl (kA e.symm rfl ⟨_, rfl⟩ (by decide +kernel) (by decide +kernel) (by decide +kernel)), i, rfl, Or.inl ⟨hi, k + 1, N, nb, nn, nr + 1, H, p1.1, gw0, Or.inr (Or.inr ⟨p1.2.2.2.1, by rw [show nr + 1 - 1 = nr by omega]; exact gpl⟩), by omega, by omega, p1.2.2.1, gh, g8, by omega, by omega, by omega, by omega, g13, fun _ => by omega, fun q => by omega⟩⟩
  · obtain ⟨i, rfl, hi⟩ := zRt_K (c := 1) (by rw [e] at pr; exact pr)
    have p1 := kP (v := 7) e.symm (by decide +kernel) (by decide +kernel) (by decide +kernel) (by decide +kernel) (by decide +kernel)
    have p2 := kU1 e.symm (by decide +kernel) (by decide +kernel)
    have f1 := kf (f := (-6, [(8, 1)])) (by rw [e]; decide +kernel) (zE_1 rfl)
    have f2 := kf (f := (-59, [(6, 1)])) (by rw [e]; decide +kernel) (zE_1 rfl)
    have f3 := kf (f := (-29, [(7, 1)])) (by rw [e]; decide +kernel) (zE_1 rfl)
    refine Or.inr ⟨k4 e.symm (by decide +kernel), Or.inr (Or.inl (kB e.symm (by decide +kernel) (by decide +kernel) (by decide +kernel))), i, rfl, Or.inl ⟨hi, k + 1, N, nb, nn, nr + 1, H, p1.1, gw0, Or.inr (Or.inr ⟨p1.2.2.2.1, by rw [show nr + 1 - 1 = nr by omega]; exact gpl⟩), by omega, by omega, p1.2.2.1, gh, g8, by omega, by omega, by omega, by omega, g13, fun _ => by omega, fun q => by omega⟩⟩
  · obtain ⟨i, rfl, hi⟩ := zRt_K (c := 0) (by rw [e] at pr; exact pr)
    have p1 := kL e.symm (by decide +kernel) (by decide +kernel) (by decide +kernel) (by decide +kernel)
    have p2 := kU1 e.symm (by decide +kernel) (by decide +kernel)
    have f2 := kf (f := (-59, [(6, 1)])) (by rw [e]; decide +kernel) (zE_1 rfl)
    have f3 := kf (f := (-29, [(7, 1)])) (by rw [e]; decide +kernel) (zE_1 rfl)
    refine Or.inr ⟨k4 e.symm (by decide +kernel), Or.inl (kA e.symm rfl ⟨_, rfl⟩ (by decide +kernel) (by decide +kernel) (by decide +kernel)), i, rfl, Or.inr (Or.inl ⟨hi, k, N + 1, nb, nn, nr, H + 1, p1.1, gw0, gpl, by omega, by omega, p1.2.2.1, ⟨H, gh, Or.inr (Or.inl ⟨p1.2.2.2.1, p1.2.2.2.2, by omega, rfl⟩)⟩, by omega, by omega, by omega, by omega, by omega, g13, fun q => by omega, fun _ => by omega⟩)⟩
  · obtain ⟨i, rfl, hi⟩ := zRt_K (c := 0) (by rw [e] at pr; exact pr)
    have p1 := kL e.symm (by decide +kernel) (by decide +kernel) (by decide +kernel) (by decide +kernel)
    have p2 := kU1 e.symm (by decide +kernel) (by decide +kernel)
    have f2 := kf (f := (-59, [(6, 1)])) (by rw [e]; decide +kernel) (zE_1 rfl)
    have f3 := kf (f := (-29, [(7, 1)])) (by rw [e]; decide +kernel) (zE_1 rfl)
    refine Or.inr ⟨k4 e.symm (by decide +kernel), Or.inr (Or.inl (kB e.symm (by decide +kernel) (by decide +kernel) (by decide +kernel))), i, rfl, Or.inr (Or.inl ⟨hi, k, N + 1, nb, nn, nr, H + 1, p1.1, gw0, gpl, by omega, by omega, p1.2.2.1, ⟨H, gh, Or.inr (Or.inl ⟨p1.2.2.2.1, p1.2.2.2.2, by omega, rfl⟩)⟩, by omega, by omega, by omega, by omega, by omega, g13, fun q => by omega, fun _ => by omega⟩)⟩
def zvSp : zSt0 := [(469, 73, zK 8, .inl (zK 0)), (469, 73, zK 6, .inl (zX 0)), (469, 73, zK 7, .inl (zX 0)), (469, 73, zK 3, .inl (zX 0)), (469, 73, zK 38, .inr (.inr (.inr (.inl (1, 60))))), (469, 73, zK 4, .inl (zK 0))]
noncomputable def zvT : zT := zads zT0 zvSp
theorem zv_c : zadc zT0 zvSp = true := by decide +kernel
theorem zv_l : ztle ([(0, 1600)], [], []) (znew 0 1) zvT zc_3017.2.2.2.2.2.1 = true := by decide +kernel
theorem zv_q : (match zap zw_3017 ([(0, 1600)], [], []) zvT [.inr (.inl 469)] zc_3017 with
    | some q => q.all (fun w => ztle w.2.2 [] w.2.1 zT0)
    | none => false) = true := by decide +kernel
def zeSp : zSt0 := [(469, 73, zK 36, .inl (zX 1))]
noncomputable def zeT : zT := zads zT0 zeSp
theorem ze_c : zadc zT0 zeSp = true := by decide +kernel
theorem ze_l0 : ztle ([(-2147483648, 2147483647), (0, 1119)], [], []) (znew 0 2) zeT zc_3004.2.2.2.2.2.1 = true := by decide +kernel
def zeS2 : zSt0 := [(490, 1120, zX 2, .inl (zX 3))]
theorem ze_c2 : zadc zeT zeS2 = true := by decide +kernel
theorem ze_l2 : ztle ([(-2147483648, 2147483647), (0, 1119)] ++ zuB2, [], []) (znew 0 4) (zads zeT zeS2) zc_3005.2.2.2.2.2.1 = true := by decide +kernel
theorem ze_l3 : ztle ([(-2147483648, 2147483647), (0, 1119)] ++ zuB2, [], []) (znew 0 4) (zads zeT zeS2) zc_3006.2.2.2.2.2.1 = true := by decide +kernel
/-- at the text's end a unit is a fault -/
theorem zunitB {S : Nat × (Nat → Int32)} {D : Nat} (hD : 2 ≤ D) {h : mH} {b n0 : Int} (hT : zHp [] zT0 h) (hA : zTB h) (hf : zI h 469 4 = 0) (hrb : zI h 469 35 = b) (hb : b = 0 ∨ b = 1) (hG : zGp 1 b n0 h) : mi_T mi_P S D 191 (0, mi_ent 0 [.ref 469], []) h (zRp 1 b n0 h) := by
  subst hrb
  obtain ⟨b1, b2, b3, b4, b5, b6, b7, b8, b9, b10, b11⟩ := zGp_b hb (Or.inr rfl) hG
  obtain ⟨a1, a2, a3, a4, a5⟩ := hA
  have hB : zB [(0, 1600)] [zI h 469 3] := zB_cons a4 a5 zB_nil
  have hH : zHp [zI h 469 3] zvT h := zads_ok (sp := zvSp) (zHp_mono [zI h 469 3] hT) zv_c ⟨⟨8, zE_K, by omega, by omega, by rw [a1]; exact zE_K⟩, ⟨6, zE_K, by omega, by omega, by rw [a2]; exact zE_X rfl⟩, ⟨7, zE_K, by omega, by omega, by rw [a3]; exact zE_X rfl⟩, ⟨3, zE_K, by omega, by omega, zE_X rfl⟩, ⟨38, zE_K, by omega, by omega, b1, b2⟩, ⟨4, zE_K, by omega, by omega, by rw [hf]; exact zE_K⟩, trivial⟩
  have M1 := (zt_3017 (S := S)).2 D hD [zI h 469 3] [.ref 469] h trivial hB zFa_nil ⟨_, _, rfl, rfl, rfl⟩ (zHp_le hB zv_l hH)
  have M2 := zcallT (D := D) (W := zw_3017) (xs := [.ref 469]) (zt_3017 (S := S)) hD zv_q (zEn_mk hB zFa_nil) hH (zSt_k (v := .inr (.inl 469)) (vs := []) ⟨rfl, rfl⟩ rfl)
  refine mi_T_mono (mi_T_and M1 M2) ?_
  rintro x h' ⟨⟨⟨-, -, po, hpo, s, pB, pF, pw, pr⟩, -⟩, hsm, hT'⟩
  have hpo : po = zq_3017_0 := List.mem_singleton.mp hpo
  subst hpo
  have z4 := zPw_cb pw (k := 469) (e := zK 4) (lo := 1) (hi := 4) (by decide +kernel) zE_K
  have ec : zI h' 490 = zI h 490 := funext (zI_sm hsm (by decide +kernel))
  have e36 : zI h' 469 36 = zI h 469 36 := zI_smf (j := 36) hsm (zT0_obj hT) (by decide +kernel)
  obtain ⟨k, N, nb, nn, nr, H, g1, g2, g3, g4, g5, g6, g7, g8⟩ := hG
  obtain ⟨i, rfl, hi⟩ := zRt_K (c := 1) pr
  exact ⟨hT', ⟨zsm_tr zsm_rf hsm (zwle_ok (by decide +kernel)), fun j _ _ _ => by rw [ec]⟩, Or.inl ⟨⟨i, rfl⟩, z4.1, z4.2, N, H, by rw [e36]; exact g6, by rw [ec]; exact g7, by rw [e36]; exact b4⟩⟩
/-- emit, exactly -/
theorem zemit {S : Nat × (Nat → Int32)} {D : Nat} {h : mH} {x0 : Int32} {d0 : Int32} (hT : zHp [] zT0 h) (h0 : 0 ≤ zI h 469 36) (h1 : zI h 469 36 ≤ 1119) : mi_T mi_P S D 194 (0, mi_ent 0 [.ref 469, .int x0, .int d0], []) h (fun _ h' => zsm zw_3004 h h' ∧ ∀ j : Int, 0 ≤ j → j < 1120 → j ≠ zI h 469 36 → zI h' 490 j = zI h 490 j) := by
  have xb := zI_b x0
  have hB : zB [(-2147483648, 2147483647), (0, 1119)] [x0.toInt, zI h 469 36] := zB_cons xb.1 xb.2 (zB_cons h0 h1 zB_nil)
  have hH : zHp [x0.toInt, zI h 469 36] zeT h := zads_ok (sp := zeSp) (zHp_mono [x0.toInt, zI h 469 36] hT) ze_c ⟨⟨36, zE_K, by omega, by omega, zE_X rfl⟩, trivial⟩
  have hAr : ∀ (r : List Int), zAr ([x0.toInt, zI h 469 36] ++ r) [.inr (.inl 469), .inl (zX 0), zaI] [.ref 469, .int x0, .int d0] := fun r => ⟨_, _, rfl, rfl, _, _, rfl, ⟨x0, rfl, zE_X rfl⟩, _, _, rfl, ⟨d0, rfl, (zI_b d0).1, (zI_b d0).2⟩, rfl⟩
  have M1 := (zt_3004 (S := S)).2 D (Nat.zero_le _) [x0.toInt, zI h 469 36] [.ref 469, .int x0, .int d0] h trivial hB zFa_nil (by have := hAr []; rw [List.append_nil] at this; exact this) (zHp_le hB ze_l0 hH)
  have M4 : ∀ j : Int, mi_T mi_P S D 194 (0, mi_ent 0 [.ref 469, .int x0, .int d0], []) h (fun _ h' => 0 ≤ j → j < 1120 → j ≠ zI h 469 36 → zI h' 490 j = zI h 490 j) := by
    intro j
    by_cases hj : 0 ≤ j ∧ j < 1120 ∧ j ≠ zI h 469 36
    · have w1 := zT_c hT (j := j) (by omega) (by omega)
      have hB1 : zB zuB2 [j, zI h 490 j] := zB_cons (by omega) (by omega) (zB_cons w1.1 w1.2 zB_nil)
      have hH1 : zHp [x0.toInt, zI h 469 36, j, zI h 490 j] (zads zeT zeS2) h := zads_ok (sp := zeS2) (zHp_mono [j, zI h 490 j] hH) ze_c2 ⟨⟨j, zE_X rfl, by omega, by omega, zE_X rfl⟩, trivial⟩
      have hBB := zB_more hB hB1
      rcases (by omega : j < zI h 469 36 ∨ zI h 469 36 < j) with hl | hl
      · have := (zt_3005 (S := S)).2 D (Nat.zero_le _) [x0.toInt, zI h 469 36, j, zI h 490 j] [.ref 469, .int x0, .int d0] h trivial hBB (zFa_cons (zE_2 rfl rfl) (by omega) zFa_nil) (hAr [j, zI h 490 j]) (zHp_le hBB ze_l2 hH1)
        refine mi_T_mono this ?_
        rintro x h' ⟨⟨-, -, po, hpo, s, -, -, pw, -⟩, -⟩ _ _ _
        have hpo : po = zq_3005_0 := List.mem_singleton.mp hpo
        subst hpo
        exact zPw_ck pw (k := 490) (e := zX 2) (d := zX 3) (by decide +kernel) (zE_mono s (zE_X rfl)) (zE_mono s (zE_X rfl))
      · have := (zt_3006 (S := S)).2 D (Nat.zero_le _) [x0.toInt, zI h 469 36, j, zI h 490 j] [.ref 469, .int x0, .int d0] h trivial hBB (zFa_cons (zE_2 rfl rfl) (by omega) zFa_nil) (hAr [j, zI h 490 j]) (zHp_le hBB ze_l3 hH1)
        refine mi_T_mono this ?_
        rintro x h' ⟨⟨-, -, po, hpo, s, -, -, pw, -⟩, -⟩ _ _ _
        have hpo : po = zq_3006_0 := List.mem_singleton.mp hpo
        subst hpo
        exact zPw_ck pw (k := 490) (e := zX 2) (d := zX 3) (by decide +kernel) (zE_mono s (zE_X rfl)) (zE_mono s (zE_X rfl))
    · exact mi_T_mono M1 (fun _ _ _ a b c => absurd ⟨a, b, c⟩ hj)
  refine mi_T_mono (mi_T_all M1 M4) ?_
  rintro x h' ⟨⟨⟨hsm, -⟩, -⟩, e4⟩
  exact ⟨hsm, e4⟩
