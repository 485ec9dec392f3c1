/-! e(), by hand -/
theorem zcallR {P : mP} {S : Nat × (Nat → Int32)} {D : Nat} {J : mH → Prop} {r : List Int} {Q R : Option Value → mH → Prop} {en : zN} {t : zT} {h : mH} {m pc y : Nat} {l : List (Nat × zV)} {st : List zV} {fs : List (Nat × mF)} (hi : mi_at P m pc = .invokevirtual y) (hb : zhcb P D y st [] t = true) (hR : zRS J r ([(m, pc, l, st)], t, en) fs h) (hct : ∀ xs, zSt r (st.take (P.get y).2.1).reverse xs → mi_T P S (D - 1) y (0, mi_ent 0 xs, []) h R)
    (hg : ∀ x h' l0 rest, zLo r l l0 → zSt r (st.drop (P.get y).2.1) rest → R x h' → zKK P S D Q [(m, (pc + 1, l0, x.toList ++ rest))] h') : zKK P S D Q fs h := by
  unfold zhcb at hb
  simp only [Bool.and_eq_true] at hb
  obtain ⟨b1, b2, b3, b4, b5⟩ := hb
  have b1 := e_ble.mp b1
  have b2 := e_ble.mp b2
  have b3 := e_ble.mp b3
  have b5 := e_blt.mp b5
  obtain ⟨⟨l0, st0, fs', rfl, hl, hst, hfr⟩, hH, hE, hs⟩ := hR
  have hfr : fs' = [] := hfr
  subst hfr
  have hargs := zSt_rev (zSt_take (P.get y).2.1 hst)
  have hrest := zSt_drop (P.get y).2.1 hst
  have ha : mi_args (P.get y).2.1 st0 = some ((st0.take (P.get y).2.1).reverse, st0.drop (P.get y).2.1) := by
    unfold mi_args
    rw [if_pos (by rw [zSt_len hst]; exact b1)]
  have h8 : ((st0.drop (P.get y).2.1).map fun v => v.category).sum ≤ 8 := by rw [zSt_cats hrest]; exact b2
  have hm : (((st0.take (P.get y).2.1).reverse).map fun v => v.category).sum ≤ (P.get y).2.2.2.2.1 := by
    rw [List.map_reverse, List.sum_reverse, zSt_cats (zSt_take (P.get y).2.1 hst)]
    exact b3
  have hrc := zrcv_ok hH hargs b4
  have b5 : 0 < D := b5
  obtain ⟨d', rfl⟩ : ∃ d', D = d' + 1 := ⟨D - 1, by omega⟩
  show mi_T P S (d' + 1) m (pc, l0, st0) h (zKs P S (d' + 1) Q [])
  refine mi_T_ca hi ha h8 hm hrc ?_
  refine mi_T_mono (hct _ hargs) ?_
  intro x h' k2
  exact hg x h' l0 _ hl hrest k2
def zfp (m pc : Nat) (p : Int) (fs : List (Nat × mF)) : Prop := ∃ (l0 : List (Nat × Value)) (i : Int32), fs = [(m, (pc, l0, []))] ∧ mi_lg l0 0 = some (.ref 469) ∧ mi_lg l0 1 = some (.int i) ∧ i.toInt = p
theorem zfp_to {m pc : Nat} {p : Int} {r : List Int} {e : zL} {fs : List (Nat × mF)} (h : zfp m pc p fs) (he : zE r e p) : zFs r [(m, pc, [(1, .inl e), (0, .inr (.inl 469))], [])] fs := by
  obtain ⟨l0, i, rfl, h0, h1, h2⟩ := h
  refine ⟨l0, [], [], rfl, ?_, rfl, rfl⟩
  intro q hq
  simp only [List.mem_cons, List.not_mem_nil, or_false] at hq
  rcases hq with rfl | rfl
  · exact ⟨_, h1, i, rfl, by rw [h2]; exact he⟩
  · exact ⟨_, h0, rfl⟩
theorem zfp_of {m pc : Nat} {p : Int} {r : List Int} {e : zL} {fs : List (Nat × mF)} (h : zFs r [(m, pc, [(1, .inl e), (0, .inr (.inl 469))], [])] fs) (he : zE r e p) : zfp m pc p fs := by
  obtain ⟨l0, st0, fs', rfl, hl, hst, hfr⟩ := h
  have hst : st0 = [] := hst
  have hfr : fs' = [] := hfr
  subst hst
  subst hfr
  obtain ⟨x, a1, i, rfl, a2⟩ := hl _ (List.mem_cons_self ..)
  obtain ⟨y, b1, b2⟩ := hl _ (List.mem_cons_of_mem _ (List.mem_cons_self ..))
  have b2 : y = .ref 469 := b2
  exact ⟨l0, i, rfl, by rw [b1, b2], a1, zE_fun a2 he⟩
/-- behind e -/
def zRe (b n0 : Int) (h0 h' : mH) : Prop := zHp [] zT0 h' ∧ zFr b n0 h0 h' ∧ (∃ (N : Nat) (H : Int), zI h' 469 36 = n0 + N ∧ zhg (zI h' 490) n0 N H ∧ zI h' 469 36 ≤ 560 * b + 547) ∧ ((1 ≤ zI h' 469 4 ∧ zI h' 469 4 ≤ 4) ∨ (zI h' 469 4 = 0 ∧ (zTA h' ∨ zTB h') ∧ zI h0 469 6 < zI h' 469 6 ∧ zI h' 469 3 = zI h0 469 3 ∧ zI h' 469 36 ≤ 560 * b + 9 * zI h' 481 b ∧ 0 ≤ zI h' 481 b ∧ zI h' 481 b ≤ 60))
noncomputable def zeE : zS := ([(189, 0, [(0, .inr (.inl 469))], [])], zT0, [], [], [])
noncomputable def zeH1 : zS := ([(189, 12, [(1, .inl (zK 1)), (0, .inr (.inl 469))], [])], zads zT0 [(469, 73, zK 38, .inl (zK 1)), (469, 73, zK 37, .inl (zK 0)), (492, 90, zK 0, .inl (zK 8))], [], [], [])
def zeW : zW := .branch 492 (.leaf (470, [37, 38])) (.branch 493 (.leaf (493, [0])) (.leaf (494, [0])))
noncomputable def zeR (W : zW) (F : List zTg) (s : zS) : Bool := zrun (zstep mi_P 6 W false [] [] znC) (fun s => F.any (zstg s) || znF s) 500 [s]
theorem ze_0 : zeR zeW [(zeH1, [], [])] zeE = true := by decide +kernel
theorem ze_0k : (zchk zeH1.2.1 469 (zK 38) (zK 1) && (zchk zeH1.2.1 469 (zK 37) (zK 0) && zchk zeH1.2.1 492 (zK 0) (zK 8))) = true := by decide +kernel
theorem ze_0t : ztle ([], [], []) [] zeH1.2.1 zT0 = true := by decide +kernel
/-- the loop's head: a unit is wanted, or not -/
noncomputable def zeH (w : Int) : zS := ([(189, 12, [(1, .inl (zK w)), (0, .inr (.inl 469))], [])], zads zT0 [(469, 73, zK 4, .inl (zK 0)), (469, 73, zK 38, .inr (.inr (.inr (.inl (1, 60)))))], [], [], [])
noncomputable def zeC (pc : Nat) : zS := ([(189, pc, [(0, .inr (.inl 469))], [.inr (.inl 469)])], zT0, [], [], [])
theorem ze_1 : zeR zW0 [(zeC 21, [], [])] (zeH 1) = true := by decide +kernel
theorem ze_2 : zeR zW0 [(zeC 24, [], [])] (zeH 0) = true := by decide +kernel
theorem ze_hc : zadc zT0 [(469, 73, zK 4, .inl (zK 0)), (469, 73, zK 38, .inr (.inr (.inr (.inl (1, 60)))))] = true := by decide +kernel
theorem ze_h1 : zhcb mi_P 6 191 [.inr (.inl 469)] [] zT0 = true := by decide +kernel
theorem ze_h2 : zhcb mi_P 6 195 [.inr (.inl 469)] [] zT0 = true := by decide +kernel
/-- back to the head -/
noncomputable def zeB (pc : Nat) : zS := ([(189, pc, [(0, .inr (.inl 469))], [.inl (zX 0)])], zT0, [(-2147483648, 2147483647)], [], [])
noncomputable def zeT2 : zS := ([(189, 12, [(1, .inl (zX 0)), (0, .inr (.inl 469))], [])], zT0, [(-2147483648, 2147483647)], [], [])
theorem ze_3 : zeR zW0 [(zeT2, [zX 0], [])] (zeB 22) = true := by decide +kernel
theorem ze_4 : zeR zW0 [(zeT2, [zX 0], [])] (zeB 25) = true := by decide +kernel
/-- the end -/
def zeP : List (zPo × List (Nat ⊕ (Nat × zL))) := [(([], [], [], none), [])]
noncomputable def zeX1 : zS := ([(189, 12, [(1, .inl (zX 0)), (0, .inr (.inl 469))], [])], zads zT0 [(469, 73, zK 4, .inr (.inr (.inr (.inl (1, 4)))))], [(-2147483648, 2147483647)], [], [])
noncomputable def zeX2 : zS := ([(189, 12, [(1, .inl (zX 0)), (0, .inr (.inl 469))], [])], zads zT0 [(469, 73, zK 4, .inl (zK 0)), (469, 73, zK 38, .inl (zK 0))], [(-2147483648, 2147483647)], [], [])
theorem ze_5 : zend? 6 zW0 [] 1 [(-2147483648, 2147483647)] zT0 zeP zeX1 = true := by decide +kernel
theorem ze_6 : zend? 6 zW0 [] 1 [(-2147483648, 2147483647)] zT0 zeP zeX2 = true := by decide +kernel
theorem ze_5c : zadc zT0 [(469, 73, zK 4, .inr (.inr (.inr (.inl (1, 4)))))] = true := by decide +kernel
theorem ze_6c : zadc zT0 [(469, 73, zK 4, .inl (zK 0)), (469, 73, zK 38, .inl (zK 0))] = true := by decide +kernel
theorem zexit {S : Nat × (Nat → Int32)} {Q : mH → Prop} {h : mH} {w : Int} {fs : List (Nat × mF)} (hT : zHp [] zT0 h) (hfs : zfp 189 12 w fs) (hw : -2147483648 ≤ w ∧ w ≤ 2147483647) (hx : (1 ≤ zI h 469 4 ∧ zI h 469 4 ≤ 4) ∨ (zI h 469 4 = 0 ∧ zI h 469 38 = 0)) (hQ : ∀ h', zsm zW0 h h' → zHp [] zT0 h' → Q h') : zKK mi_P S 6 (fun x h' => x = none ∧ Q h') fs h := by
  have hB : zB [(-2147483648, 2147483647)] [w] := zB_cons hw.1 hw.2 zB_nil
  rcases hx with hx | hx
  · have hR : zRS (fun k => zsm zW0 h k) [w] zeX1 fs h := ⟨zfp_to hfs (zE_X rfl), zads_ok (sp := [(469, 73, zK 4, .inr (.inr (.inr (.inl (1, 4)))))]) (zHp_mono [w] hT) ze_5c ⟨⟨4, zE_K, by omega, by omega, hx.1, hx.2⟩, trivial⟩, zEn_mk hB zFa_nil, zsm_rf⟩
    have M : zKK mi_P S 6 (zEd zW0 h [w] [(-2147483648, 2147483647)] zeP) fs h := zend (r := [w]) (cts := []) (pre := zT0) (s := zeX1) ze_5 (fun c hc => by cases hc) hR
    refine zKK_mono (fun x h' q => ⟨?_, hQ h' q.1 q.2.1⟩) M
    obtain ⟨-, -, po, hpo, s, -, -, -, pr⟩ := q
    have hpo : po = ([], [], [], none) := List.mem_singleton.mp hpo
    subst hpo
    exact pr
  · have hR : zRS (fun k => zsm zW0 h k) [w] zeX2 fs h := ⟨zfp_to hfs (zE_X rfl), zads_ok (sp := [(469, 73, zK 4, .inl (zK 0)), (469, 73, zK 38, .inl (zK 0))]) (zHp_mono [w] hT) ze_6c ⟨⟨4, zE_K, by omega, by omega, by rw [hx.1]; exact zE_K⟩, ⟨38, zE_K, by omega, by omega, by rw [hx.2]; exact zE_K⟩, trivial⟩, zEn_mk hB zFa_nil, zsm_rf⟩
    have M : zKK mi_P S 6 (zEd zW0 h [w] [(-2147483648, 2147483647)] zeP) fs h := zend (r := [w]) (cts := []) (pre := zT0) (s := zeX2) ze_6 (fun c hc => by cases hc) hR
    refine zKK_mono (fun x h' q => ⟨?_, hQ h' q.1 q.2.1⟩) M
    obtain ⟨-, -, po, hpo, s, -, -, -, pr⟩ := q
    have hpo : po = ([], [], [], none) := List.mem_singleton.mp hpo
    subst hpo
    exact pr
/-- nothing written: all is as it was -/
theorem zRe_0 {b n0 : Int} {h0 h h' : mH} (ho : zobj h 469) (hs : zsm zW0 h h') (hT' : zHp [] zT0 h') (hR : zRe b n0 h0 h) : zRe b n0 h0 h' := by
  have e : ∀ j : Nat, zI h' 469 j = zI h 469 j := fun j => zI_smf hs ho (zW0_no _ _)
  have ea : ∀ k, zI h' k = zI h k := fun k => funext (zI_sm hs (by unfold zjs zW0; rw [show (Lean.RArray.leaf ((0, []) : Nat × List Nat)).get k = (0, []) from rfl]; rfl))
  obtain ⟨-, r2, r3, r4⟩ := hR
  have hA : zTA h → zTA h' := fun q => by unfold zTA at q ⊢; rw [ea 469]; exact q
  have hB : zTB h → zTB h' := fun q => by unfold zTB at q ⊢; rw [ea 469]; exact q
  refine ⟨hT', ⟨zsm_tr r2.1 hs (fun k j z => by rw [zW0_no] at z; cases z), fun j a c d => by rw [ea 490]; exact r2.2 j a c d⟩, by rw [ea 469, ea 490]; exact r3, ?_⟩
  rw [ea 469, ea 481]
  rcases r4 with q | ⟨q1, q2, q3⟩
  · exact Or.inl q
  · exact Or.inr ⟨q1, q2.imp hA hB, q3⟩
theorem ztn {a b c : Int} (h1 : a < b) (h2 : b ≤ c) : (c - b).toNat < (c - a).toNat := by omega
theorem zeloop {S : Nat × (Nat → Int32)} {h0 : mH} {b n0 : Int} (hb : b = 0 ∨ b = 1) : ∀ (d : Nat) (w : Int) (h : mH) (fs : List (Nat × mF)), (zI h 469 3 - zI h 469 6).toNat ≤ d → (w = 0 ∨ w = 1) → zHp [] zT0 h → zI h 469 4 = 0 → zI h 469 35 = b → zGp w b n0 h → (zTA h ∨ zTB h) → zFr b n0 h0 h → zI h0 469 6 ≤ zI h 469 6 → (w = 0 → zI h0 469 6 < zI h 469 6) → zI h 469 3 = zI h0 469 3 → zfp 189 12 w fs → zKK mi_P S 6 (fun x h' => x = none ∧ zRe b n0 h0 h') fs h := by
  intro d
  induction d using Nat.strongRecOn with
  | ind d ih =>
    intro w h fs hd hw hT hf hrb hG hAB hF h6 h60 h3 hfs
    have gb := zGp_b hb hw hG
    have ho := zT0_obj hT
    -- what is so behind the call
    have after : ∀ (pc : Nat), zeR zW0 [(zeT2, [zX 0], [])] (zeB pc) = true → ∀ x h' l0, zLo [] [(0, .inr (.inl 469))] l0 → zRp w b n0 h x h' → zKK mi_P S 6 (fun x h' => x = none ∧ zRe b n0 h0 h') [(189, (pc, l0, x.toList ++ []))] h' := by
      intro pc hpc x h' l0 hl hR
      obtain ⟨hT', hF', hR⟩ := hR
      have hFr := zFr_tr hF hF'
      have rb' : zI h' 469 35 = b := (zI_smf (j := 35) hF'.1 ho (by decide +kernel)).trans hrb
      have hxi : ∃ i : Int32, x = some (.int i) := by
        rcases hR with ⟨q, -⟩ | ⟨-, -, i, q, -⟩
        · exact q
        · exact ⟨i, q⟩
      obtain ⟨i, rfl⟩ := hxi
      have ib := zI_b i
      have hRS : zRS (fun k => zsm zW0 h' k) [i.toInt] (zeB pc) [(189, (pc, l0, [.int i]))] h' := ⟨⟨l0, _, [], rfl, zLo_mono [i.toInt] hl, zSt_k (zR_mkI (zE_X rfl)) rfl, rfl⟩, zHp_mono [i.toInt] hT', zEn_mk (zB_cons ib.1 ib.2 zB_nil) zFa_nil, zsm_rf⟩
      refine zseg (tg := [(zeT2, [zX 0], [])]) (fin := znF) (fun h1 h2 q z => zsm_tr q z (fun _ _ z => z)) znC_ok hpc hRS ?_ (fun s hs => by cases hs)
      intro F hFF r1 rc fs2 h2 q1 q2 q3
      have hFF := List.mem_singleton.mp hFF
      subst hFF
      have e := zGe_eq0 (l := [i.toInt]) q1 q2 (zGe_cons (zE_X rfl) zGe_nil)
      subst e
      obtain ⟨k1, k2, k3, k4⟩ := q3
      have hT2 : zHp [] zT0 h2 := zHp_T k3 (by decide +kernel) k2
      have hfs2 : zfp 189 12 i.toInt fs2 := zfp_of k1 (zE_X rfl)
      have ea : ∀ k, zI h2 k = zI h' k := fun k => funext (zI_sm k4 (by unfold zjs zW0; rw [show (Lean.RArray.leaf ((0, []) : Nat × List Nat)).get k = (0, []) from rfl]; rfl))
      have hFr2 : zFr b n0 h0 h2 := ⟨zsm_tr hFr.1 k4 (fun k j z => by rw [zW0_no] at z; cases z), fun j a c d => by rw [ea 490]; exact hFr.2 j a c d⟩
      have ho2 := zT0_obj hT2
      rcases hR with ⟨-, f1, f2, N, H, n1, n2, n3⟩ | ⟨f0, tok, i', hi', alt⟩
      · exact zexit hT2 hfs2 ib (Or.inl ⟨by rw [ea 469]; exact f1, by rw [ea 469]; exact f2⟩) (fun h3' s3 t3 => zRe_0 ho2 s3 t3 ⟨hT2, hFr2, ⟨N, H, by rw [ea 469]; exact n1, by rw [ea 490]; exact n2, by rw [ea 469]; exact n3⟩, Or.inl ⟨by rw [ea 469]; exact f1, by rw [ea 469]; exact f2⟩⟩)
      · cases hi'
        -- done, or on
        have done : zI h' 469 38 = 0 → (∃ (N : Nat) (H : Int), zI h' 469 36 = n0 + N ∧ zhg (zI h' 490) n0 N H ∧ zI h' 469 36 ≤ 560 * b + 9 * zI h' 481 b) → 0 ≤ zI h' 481 b → zI h' 481 b ≤ 60 → (zTA h' ∨ zTB h') → zI h0 469 6 < zI h' 469 6 → zI h' 469 3 = zI h0 469 3 → zKK mi_P S 6 (fun x h' => x = none ∧ zRe b n0 h0 h') fs2 h2 := by
          rintro p0 ⟨N, H, n1, n2, n3⟩ u1 u2 tk pr sz
          refine zexit hT2 hfs2 ib (Or.inr ⟨by rw [ea 469]; exact f0, by rw [ea 469]; exact p0⟩) (fun h3' s3 t3 => zRe_0 ho2 s3 t3 ⟨hT2, hFr2, ⟨N, H, by rw [ea 469]; exact n1, by rw [ea 490]; exact n2, by rw [ea 469]; omega⟩, Or.inr ⟨by rw [ea 469]; exact f0, ?_, by rw [ea 469]; exact pr, by rw [ea 469]; exact sz, by rw [ea 469, ea 481]; exact n3, by rw [ea 481]; exact u1, by rw [ea 481]; exact u2⟩⟩)
          unfold zTA zTB at tk ⊢
          rw [ea 469]
          exact tk
        have on : ∀ w', (w' = 0 ∨ w' = 1) → i.toInt = w' → zGp w' b n0 h' → (zTA h' ∨ zTB h') → zI h 469 6 < zI h' 469 6 → zI h' 469 3 = zI h 469 3 → zKK mi_P S 6 (fun x h' => x = none ∧ zRe b n0 h0 h') fs2 h2 := by
          intro w' hw' hi hG' tk pr sz
          have hle : zI h' 469 6 ≤ zI h' 469 3 := by
            rcases tk with ⟨a1, a2, a3, a4, a5, a6⟩ | ⟨a1, a2, a3, a4, a5⟩ <;> omega
          have hlt : (zI h2 469 3 - zI h2 469 6).toNat < d := by
            rw [ea 469, sz]
            exact Nat.lt_of_lt_of_le (ztn pr (by rw [sz] at hle; exact hle)) hd
          exact ih (zI h2 469 3 - zI h2 469 6).toNat hlt w' h2 fs2 (Nat.le_refl _) hw' hT2 (by rw [ea 469]; exact f0) (by rw [ea 469]; exact rb') (by unfold zGp at hG' ⊢; rw [ea 469, ea 481, ea 490, ea 492, ea 493]; exact hG') (by unfold zTA zTB at tk ⊢; rw [ea 469]; exact tk) hFr2 (by rw [ea 469]; exact Int.le_of_lt (Int.lt_of_le_of_lt h6 pr)) (fun _ => by rw [ea 469]; exact Int.lt_of_le_of_lt h6 pr) (by rw [ea 469]; exact sz.trans h3) (by rw [← hi]; exact hfs2)
        have no : ∀ {w' : Int}, zGp w' b n0 h' → zI h' 469 38 = 0 → False := by
          rintro w' ⟨k, N, nb, nn, nr, H, p1, -⟩ p0
          omega
        rcases alt with ⟨a1, a2⟩ | ⟨a1, a2⟩ | ⟨a1, a2, a3, a4⟩
        · rcases tok with ⟨t1, t2, t3⟩ | ⟨t1, t2, t3⟩ | ⟨-, t2, -⟩
          · exact on 1 (Or.inr rfl) a1 a2 (Or.inl t1) t2 t3
          · exact on 1 (Or.inr rfl) a1 a2 (Or.inr t1) t2 t3
          · exact (no a2 t2).elim
        · rcases tok with ⟨t1, t2, t3⟩ | ⟨t1, t2, t3⟩ | ⟨-, t2, -⟩
          · exact on 0 (Or.inl rfl) a1 a2 (Or.inl t1) t2 t3
          · exact on 0 (Or.inl rfl) a1 a2 (Or.inr t1) t2 t3
          · exact (no a2 t2).elim
        · rcases tok with ⟨t1, t2, t3⟩ | ⟨t1, t2, t3⟩ | ⟨t1, -, t3, t4, t5, t6⟩
          · exact done a1 a2 a3 a4 (Or.inl t1) (by omega) (by omega)
          · exact done a1 a2 a3 a4 (Or.inr t1) (by omega) (by omega)
          · have := h60 t1
            exact done a1 a2 a3 a4 (hAB.imp (zTA_eq ⟨t3, t4, t5, t6⟩) (zTB_eq ⟨t3, t4, t5, t6⟩)) (by omega) (by omega)
    have head : ∀ (w' : Int) (pc y : Nat), w = w' → zeR zW0 [(zeC pc, [], [])] (zeH w') = true → mi_at mi_P 189 pc = .invokevirtual y → zhcb mi_P 6 y [.inr (.inl 469)] [] zT0 = true → (mi_P.get y).2.1 = 1 → (∀ h1, zsm zW0 h h1 → zHp [] zT0 h1 → mi_T mi_P S 5 y (0, mi_ent 0 [.ref 469], []) h1 (zRp w b n0 h1)) → zeR zW0 [(zeT2, [zX 0], [])] (zeB (pc + 1)) = true → zKK mi_P S 6 (fun x h' => x = none ∧ zRe b n0 h0 h') fs h := by
      intro w' pc y ew hrun hi hb1 hn hcall hback
      have hR : zRS (fun k => zsm zW0 h k) [] (zeH w') fs h := ⟨zfp_to hfs (by rw [ew]; exact zE_K), zads_ok (sp := [(469, 73, zK 4, .inl (zK 0)), (469, 73, zK 38, .inr (.inr (.inr (.inl (1, 60)))))]) hT ze_hc ⟨⟨4, zE_K, by omega, by omega, by rw [hf]; exact zE_K⟩, ⟨38, zE_K, by omega, by omega, gb.1, gb.2.1⟩, trivial⟩, zEn_mk zB_nil zFa_nil, zsm_rf⟩
      refine zseg (tg := [(zeC pc, [], [])]) (fin := znF) (fun h1 h2 q z => zsm_tr q z (fun _ _ z => z)) znC_ok hrun hR ?_ (fun s hs => by cases hs)
      intro F hFF r1 rc fs2 h2 q1 q2 q3
      have hFF := List.mem_singleton.mp hFF
      subst hFF
      have e := zGe_eq0 (l := []) q1 q2 zGe_nil
      subst e
      obtain ⟨k1, k2, k3, k4⟩ := q3
      have ea : ∀ k, zI h2 k = zI h k := fun k => funext (zI_sm k4 (by unfold zjs zW0; rw [show (Lean.RArray.leaf ((0, []) : Nat × List Nat)).get k = (0, []) from rfl]; rfl))
      refine zcallR (R := zRp w b n0 h2) hi hb1 ⟨k1, k2, k3, k4⟩ ?_ ?_
      · intro xs hxs
        rw [hn] at hxs
        obtain ⟨x, st', rfl, g1, g2⟩ := zSt_c hxs
        have g2 : st' = [] := g2
        subst g2
        have := zR_ref g1
        subst this
        exact hcall h2 k4 k2
      · intro x h' l0 rest hl hrest hRp
        rw [hn] at hrest
        have hrest : rest = [] := hrest
        subst hrest
        refine after (pc + 1) hback x h' l0 hl ?_
        -- h2 is as h
        obtain ⟨z1, z2, z3⟩ := hRp
        refine ⟨z1, ⟨zsm_tr (zsm_tr (W := zWr) zsm_rf k4 (fun k j z => by rw [zW0_no] at z; cases z)) z2.1 (fun _ _ z => z), fun j a c d => by rw [z2.2 j a c d, ea 490]⟩, ?_⟩
        rw [ea 469] at z3
        exact z3
    have same : ∀ h1, zsm zW0 h h1 → ∀ k, zI h1 k = zI h k := fun h1 hs k => funext (zI_sm hs (by unfold zjs zW0; rw [show (Lean.RArray.leaf ((0, []) : Nat × List Nat)).get k = (0, []) from rfl]; rfl))
    rcases hw with hw | hw
    · subst hw
      refine head 0 24 195 rfl ze_2 (by decide +kernel) ze_h2 (by decide +kernel) ?_ ze_4
      intro h1 hs1 hT1
      have ea := same h1 hs1
      have hG1 : zGp 0 b n0 h1 := by unfold zGp at hG ⊢; rw [ea 469, ea 481, ea 490, ea 492, ea 493]; exact hG
      rcases hAB with q | q
      · exact zbehA (by omega) hT1 (by unfold zTA at q ⊢; rw [ea 469]; exact q) (by rw [ea 469]; exact hf) (by rw [ea 469]; exact hrb) hb hG1
      · exact zbehB (by omega) hT1 (by unfold zTB at q ⊢; rw [ea 469]; exact q) (by rw [ea 469]; exact hf) (by rw [ea 469]; exact hrb) hb hG1
    · subst hw
      refine head 1 21 191 rfl ze_1 (by decide +kernel) ze_h1 (by decide +kernel) ?_ ze_3
      intro h1 hs1 hT1
      have ea := same h1 hs1
      have hG1 : zGp 1 b n0 h1 := by unfold zGp at hG ⊢; rw [ea 469, ea 481, ea 490, ea 492, ea 493]; exact hG
      rcases hAB with q | q
      · exact zunit (by omega) hT1 (by unfold zTA at q ⊢; rw [ea 469]; exact q) (by rw [ea 469]; exact hf) (by rw [ea 469]; exact hrb) hb hG1
      · exact zunitB (by omega) hT1 (by unfold zTB at q ⊢; rw [ea 469]; exact q) (by rw [ea 469]; exact hf) (by rw [ea 469]; exact hrb) hb hG1
/-- e(): from a token, with the codes and units as they may be -/
theorem ze {S : Nat × (Nat → Int32)} {h : mH} {b : Int} (hT : zHp [] zT0 h) (hA : zTA h ∨ zTB h) (hf : zI h 469 4 = 0) (hrb : zI h 469 35 = b) (hb : b = 0 ∨ b = 1) (hur : zI h 469 39 = 0) (u0 : 0 ≤ zI h 481 b) (u1 : zI h 481 b ≤ 60) (c0 : 560 * b ≤ zI h 469 36) (c1 : zI h 469 36 ≤ 560 * b + 9 * zI h 481 b) : mi_T mi_P S 6 189 (0, mi_ent 0 [.ref 469], []) h (fun x h' => x = none ∧ zRe b (zI h 469 36) h h') := by
  have ho := zT0_obj hT
  have hR : zRS (fun k => zsm zeW h k) [] zeE [(189, (0, mi_ent 0 [.ref 469], []))] h := by
    have hSt : zSt [] [.inr (.inl 469)] [.ref 469] := zSt_k ⟨rfl, rfl⟩ rfl
    exact ⟨⟨_, _, [], rfl, zent_ok 0 hSt, rfl, rfl⟩, hT, zEn_mk zB_nil zFa_nil, zsm_rf⟩
  have main := zseg (S := S) (Q := fun x h' => x = none ∧ zRe b (zI h 469 36) h h') (tg := [(zeH1, [], [])]) (fin := znF) (fun h1 h2 q z => zsm_tr q z (fun _ _ z => z)) znC_ok ze_0 hR ?_ (fun s hs => by cases hs)
  · exact main
  · intro F hFF r1 rc fs1 h1 q1 q2 q3
    have hFF := List.mem_singleton.mp hFF
    subst hFF
    have e := zGe_eq0 (l := []) q1 q2 zGe_nil
    subst e
    obtain ⟨k1, k2, k3, k4⟩ := q3
    have ck := ze_0k
    simp only [Bool.and_eq_true] at ck
    have e38 : zI h1 469 38 = 1 := zI_ck k2 ck.1 zE_K zE_K
    have e37 : zI h1 469 37 = 0 := zI_ck k2 ck.2.1 zE_K zE_K
    have e0 : zI h1 492 0 = 8 := zI_ck k2 ck.2.2 zE_K zE_K
    have hT1 : zHp [] zT0 h1 := zHp_T k3 ze_0t k2
    have t1 := zTA_sm (by decide +kernel) ho k4
    have e4 : zI h1 469 4 = 0 := (zI_smf (j := 4) k4 ho (by decide +kernel)).trans hf
    have e35 : zI h1 469 35 = b := (zI_smf (j := 35) k4 ho (by decide +kernel)).trans hrb
    have e36 : zI h1 469 36 = zI h 469 36 := zI_smf (j := 36) k4 ho (by decide +kernel)
    have e39 : zI h1 469 39 = 0 := (zI_smf (j := 39) k4 ho (by decide +kernel)).trans hur
    have e481 : zI h1 481 = zI h 481 := funext (zI_sm k4 (by decide +kernel))
    have e490 : zI h1 490 = zI h 490 := funext (zI_sm k4 (by decide +kernel))
    refine zeloop hb _ 1 h1 fs1 (Nat.le_refl _) (Or.inr rfl) hT1 e4 e35 ⟨0, 0, 0, 0, 0, 0, by omega, e0, ⟨rfl, rfl, rfl⟩, by omega, by omega, by omega, rfl, by omega, by omega, by omega, by rw [e481]; omega, by rw [e481]; omega, c0, fun _ => by rw [e481]; omega, fun q => by omega⟩ (hA.imp (zTA_eq t1) (zTB_eq t1)) ⟨zsm_tr zsm_rf k4 (zwle_ok (by decide +kernel)), fun j _ _ _ => by rw [e490]⟩ (by omega) (fun q => by omega) t1.1 (zfp_of k1 zE_K)
