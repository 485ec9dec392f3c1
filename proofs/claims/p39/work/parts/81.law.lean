/-! THE LAW'S LOOP: from its head, whatever the script, it ends with 1 -/
def z37s : List zV := [.inl (zX 7), .inr (.inl 6)]
def z37b : zBd := zFb ++ [(-2147483648, 2147483647)]
noncomputable def z37t (w : Option zV × zT × zN) : List zV := .inl (zX 7) :: .inr (.inl 469) :: (w.1.toList ++ z37s.drop (mi_P.get zc_4000.1).2.1)
noncomputable def z37k : Bool := zhcb mi_P 70 zc_4000.1 z37s [] zFt && (match zap zw_4000 (z37b, z37f, []) zFt (z37s.take (mi_P.get zc_4000.1).2.1).reverse zc_4000 with
  | some q => q.all (fun w => zhcb mi_P 70 zc_4001.1 (z37t w) [] w.2.1 && (match zap zw_4001 w.2.2 w.2.1 ((z37t w).take (mi_P.get zc_4001.1).2.1).reverse zc_4001 with
    | some q2 => q2.all (fun w2 => zrun zLst (zHd zFl.2.2) 200 [((0, 714 + 1, zFc, w2.1.toList ++ (z37t w).drop (mi_P.get zc_4001.1).2.1) :: [], w2.2.1, w2.2.2)])
    | none => false))
  | none => false)
theorem z37_ok : z37k = true := by decide +kernel
/-- a look at the script: the object, and the int behind the case -/
theorem zlook {S : Nat × (Nat → Int32)} {Q : Option Value → mH → Prop} {h : mH} {l0 : List (Nat × Value)} {st : List Value} {pc k o : Nat} {i : Int32} (c0 : mi_at mi_P 0 pc = .aload k) (c1 : mi_at mi_P 0 (pc + 1) = .aload 0) (c2 : mi_at mi_P 0 (pc + 1 + 1) = .iload 3) (c3 : mi_at mi_P 0 (pc + 1 + 1 + 1) = .iconst 1) (c4 : mi_at mi_P 0 (pc + 1 + 1 + 1 + 1) = .iadd) (c5 : mi_at mi_P 0 (pc + 1 + 1 + 1 + 1 + 1) = .iaload) (e0 : mi_lg l0 0 = some (.ref 0)) (ek : mi_lg l0 k = some (.ref o)) (e3 : mi_lg l0 3 = some (.int i)) (hx : mi_ix (i + Int32.ofInt 1) S.1 = true) (hg : mi_T mi_P S 70 0 (pc + 1 + 1 + 1 + 1 + 1 + 1, l0, .int (S.2 (i + Int32.ofInt 1).toNatClampNeg) :: .ref o :: st) h Q) : mi_T mi_P S 70 0 (pc, l0, st) h Q := by
  refine mi_T_st (f' := (pc + 1, l0, .ref o :: st)) (h1 := h) (by rw [c0]; simp only [mi_step, mi_aload, ek]) ?_
  refine mi_T_st (f' := (pc + 1 + 1, l0, .ref 0 :: .ref o :: st)) (h1 := h) (by rw [c1]; simp only [mi_step, mi_aload, e0]) ?_
  refine mi_T_st (f' := (pc + 1 + 1 + 1, l0, .int i :: .ref 0 :: .ref o :: st)) (h1 := h) (by rw [c2]; simp only [mi_step, mi_iload, e3]) ?_
  refine mi_T_st (f' := (pc + 1 + 1 + 1 + 1, l0, .int (Int32.ofInt 1) :: .int i :: .ref 0 :: .ref o :: st)) (h1 := h) (by rw [c3]; rfl) ?_
  refine mi_T_st (f' := (pc + 1 + 1 + 1 + 1 + 1, l0, .int (i + Int32.ofInt 1) :: .ref 0 :: .ref o :: st)) (h1 := h) (by rw [c4]; rfl) ?_
  refine mi_T_st (f' := (pc + 1 + 1 + 1 + 1 + 1 + 1, l0, .int (S.2 (i + Int32.ofInt 1).toNatClampNeg) :: .ref o :: st)) (h1 := h) (by rw [c5]; simp only [mi_step, mi_iald, if_true, hx]) hg
theorem zloc {r : List Int} {l0 : List (Nat × Value)} {i : Int} (hl : zLo r zFc l0) (hi : r[1]? = some i) : mi_lg l0 0 = some (.ref 0) ∧ mi_lg l0 1 = some (.ref 6) ∧ mi_lg l0 2 = some (.ref 469) ∧ ∃ x : Int32, mi_lg l0 3 = some (.int x) ∧ x.toInt = i := by
  obtain ⟨a, a1, x, rfl, a2⟩ := hl (3, .inl (zX 1)) (by simp [zFc])
  obtain ⟨b, b1, b2⟩ := hl (2, .inr (.inl 469)) (by simp [zFc])
  obtain ⟨c, c1, c2⟩ := hl (1, .inr (.inl 6)) (by simp [zFc])
  obtain ⟨d, d1, d2⟩ := hl (0, .inr (.inl 0)) (by simp [zFc])
  have b2 : b = .ref 469 := b2
  have c2 : c = .ref 6 := c2
  have d2 : d = .ref 0 := d2
  exact ⟨by rw [d1, d2], by rw [c1, c2], by rw [b1, b2], x, a1, zE_fun a2 (zE_X hi)⟩
/-- with the cells' number -/
def zOmL (h : mH) : Prop := zOm h ∧ h.length ≤ 600
theorem zOmL_st {W : zW} (hw : zOmw W = true) : ∀ h h', zOmL h → zsm W h h' → zOmL h' := fun h h' q z => ⟨zOm_st hw h h' q.1 z, by rw [z.1]; exact q.2⟩
theorem zOmL_up {S : Nat × (Nat → Int32)} {ct : zCt} (h : zCtr mi_P S zOm ct) : zCtr mi_P S zOmL ct := ⟨h.1, fun D hD r as hh hO hB hF hA hH => mi_T_mono (h.2 D hD r as hh hO.1 hB hF hA hH) (fun x h' q => ⟨q.1, q.2, by rw [q.1.1.1]; exact hO.2⟩)⟩
theorem zcase37 {S : Nat × (Nat → Int32)} {N : Nat} {i T d u a w : Int} {fs : List (Nat × mF)} {h : mH} (hS : S.1 ≤ 3072) (ih : ∀ (r1 : List Int) (fs : List (Nat × mF)) (h : mH) (x : Int), zRS zOmL ([(S.1 : Int)] ++ r1) zFl.1 fs h → zE ([(S.1 : Int)] ++ r1) zFl.2.2 x → x < N → zKK mi_P S 70 (fun y k => y = some (.int 1) ∧ k.length ≤ 600) fs h) (hR : zRS zOmL [(S.1 : Int), i, T, d, u, a, w] (zCs 701).1 fs h) (hN : 3072 - i < (N : Int) + 1) : zKK mi_P S 70 (fun y k => y = some (.int 1) ∧ k.length ≤ 600) fs h := by
  obtain ⟨⟨l0, st0, fs', rfl, hl, hst, hfr⟩, hH, hE, hO⟩ := hR
  have hst : st0 = [] := hst
  have hfr : fs' = [] := hfr
  subst hst
  subst hfr
  obtain ⟨e0, e1, e2, x, e3, ex⟩ := zloc (i := i) hl rfl
  have hB : zB zFb [(S.1 : Int), i, T, d, u, a, w] := hE.1
  obtain ⟨y0, t0, z0, -, -, hB1⟩ := zB_uncons hB
  cases z0
  obtain ⟨y1, t1, z1, i0, i1, hB2⟩ := zB_uncons hB1
  cases z1
  have hF : zFa z37f [(S.1 : Int), i, T, d, u, a, w] := hE.2.1
  have f0 := zFa_hd hF (zE_2 rfl rfl)
  have hj : (x + Int32.ofInt 1).toInt = i + 1 := by
    rw [Int32.toInt_add, ex, zofI (c := 1) (by omega) (by omega)]
    exact zbm32 (by omega) (by omega)
  have hx : mi_ix (x + Int32.ofInt 1) S.1 = true := by
    unfold mi_ix
    rw [Bool.and_eq_true, decide_eq_true_eq, decide_eq_true_eq]
    omega
  have ck := z37_ok
  unfold z37k at ck
  rw [Bool.and_eq_true] at ck
  obtain ⟨k0, k1⟩ := ck
  split at k1
  · rename_i q hq
    show mi_T mi_P S 70 0 (701, l0, []) h _
    refine zlook (pc := 701) (k := 1) (o := 6) (by decide +kernel) (by decide +kernel) (by decide +kernel) (by decide +kernel) (by decide +kernel) (by decide +kernel) e0 e1 e3 hx ?_
    have vb := zI_b (S.2 (x + Int32.ofInt 1).toNatClampNeg)
    have hR8 : zRS zOmL ([(S.1 : Int), i, T, d, u, a, w] ++ [(S.2 (x + Int32.ofInt 1).toNatClampNeg).toInt]) ((0, 707, zFc, z37s) :: [], zFt, (z37b, z37f, [])) [(0, (707, l0, [.int (S.2 (x + Int32.ofInt 1).toNatClampNeg), .ref 6]))] h := by
      refine ⟨⟨l0, _, [], rfl, zLo_mono _ hl, zSt_k (zR_mkI (zE_X rfl)) (zSt_k ⟨rfl, rfl⟩ rfl), rfl⟩, zHp_mono _ hH, ⟨zB_more hB (zB_cons vb.1 vb.2 zB_nil), zFa_mono _ hF, fun q hq => by cases hq⟩, hO⟩
    have main : zKK mi_P S 70 (fun y k => y = some (.int 1) ∧ k.length ≤ 600) [(0, (707, l0, [.int (S.2 (x + Int32.ofInt 1).toNatClampNeg), .ref 6]))] h := by
      refine zhc (ct := zc_4000) (W := zw_4000) (Z := fun _ _ => True) (by decide +kernel) k0 hq (by decide +kernel) ?_ hR8 ?_
      · intro xs rc hB1 hF1 hA1 hH1
        exact mi_T_mono ((zt_4000 (S := S)).2 69 (by decide) rc xs h trivial hB1 hF1 hA1 hH1) (fun x h' q => ⟨q.1, trivial⟩)
      · intro w1 hw s y h' fs1 hsm _ hro hR2
        have hO1 : zOmL h' := zOmL_st (W := zw_4000) (by decide +kernel) h h' hO hsm
        have kk := List.all_eq_true.mp k1 w1 hw
        rw [Bool.and_eq_true] at kk
        obtain ⟨k2, k3⟩ := kk
        obtain ⟨⟨l1, st1, fs1', rfl, hl1, hst1, hfr1⟩, hH1, hE1, -⟩ := hR2
        have hfr1 : fs1' = [] := hfr1
        subst hfr1
        obtain ⟨a0, a1, a2, x1, a3, ax⟩ := zloc (i := i) hl1 rfl
        have ex1 : x1 = x := Int32.toInt_inj.mp (by rw [ax, ex])
        subst ex1
        split at k3
        · rename_i q2 hq2
          show mi_T mi_P S 70 0 (708, l1, st1) h' _
          refine zlook (pc := 708) (k := 2) (o := 469) (by decide +kernel) (by decide +kernel) (by decide +kernel) (by decide +kernel) (by decide +kernel) (by decide +kernel) a0 a2 a3 hx ?_
          have hR9 : zRS zOmL ([(S.1 : Int), i, T, d, u, a, w] ++ [(S.2 (x1 + Int32.ofInt 1).toNatClampNeg).toInt] ++ s) ((0, 714, zFc, z37t w1) :: [], w1.2.1, w1.2.2) [(0, (714, l1, .int (S.2 (x1 + Int32.ofInt 1).toNatClampNeg) :: .ref 469 :: st1))] h' := ⟨⟨l1, _, [], rfl, hl1, zSt_k (zR_mkI (zE_X rfl)) (zSt_k ⟨rfl, rfl⟩ hst1), rfl⟩, hH1, hE1, hO1⟩
          have main2 : zKK mi_P S 70 (fun y k => y = some (.int 1) ∧ k.length ≤ 600) [(0, (714, l1, .int (S.2 (x1 + Int32.ofInt 1).toNatClampNeg) :: .ref 469 :: st1))] h' := by
            refine zhc (ct := zc_4001) (W := zw_4001) (Z := fun _ _ => True) (by decide +kernel) k2 hq2 (by decide +kernel) ?_ hR9 ?_
            · intro xs rc hB1 hF1 hA1 hH1
              exact mi_T_mono ((zt_4001 (S := S)).2 69 (by decide) rc xs h' trivial hB1 hF1 hA1 hH1) (fun x h' q => ⟨q.1, trivial⟩)
            · intro w2 hw2 s2 y2 h2 fs2 hsm2 _ hro2 hR3
              have hO2 : zOmL h2 := zOmL_st (W := zw_4001) (by decide +kernel) h' h2 hO1 hsm2
              have hrun := List.all_eq_true.mp k3 w2 hw2
              have hLs : zLs true S ([(S.1 : Int), i, T, d, u, a, w] ++ [(S.2 (x1 + Int32.ofInt 1).toNatClampNeg).toInt] ++ s ++ s2) := fun _ => ⟨rfl, by omega⟩
              have hJ := zOmL_st (W := zW0) (by decide +kernel)
              have hcal : zClO mi_P S zOmL (fun d y as t en => zcalL d y as t en zlaws) := zcalL_ok (fun ct hc => zOmL_up (zlawC ct hc))
              refine zrun_ok (P := mi_P) (D := 70) (W := zW0) (Ls := true) (nf := []) (fk := []) (r0 := [(S.1 : Int), i, T, d, u, a, w] ++ [(S.2 (x1 + Int32.ofInt 1).toNatClampNeg).toInt] ++ s ++ s2) hLs hJ hcal (stop := zHd zFl.2.2) ?_ 200 _ hrun _ (List.mem_singleton_self _) [] fs2 h2 (by rw [List.append_nil]; exact ⟨hR3.1, hR3.2.1, hR3.2.2.1, hO2⟩)
              intro st hst r2 fs3 h3 hR4
              unfold zHd at hst
              rw [Bool.and_eq_true] at hst
              have hR5 : zRS zOmL ([(S.1 : Int)] ++ ([i, T, d, u, a, w] ++ ([(S.2 (x1 + Int32.ofInt 1).toNatClampNeg).toInt] ++ (s ++ (s2 ++ r2))))) st fs3 h3 := by
                simp only [List.append_assoc, List.cons_append, List.nil_append] at hR4 ⊢
                exact hR4
              obtain ⟨r1', hR6, hmu⟩ := zmtc_ok (r0 := [(S.1 : Int)]) hst.2 hR5
              obtain ⟨y, hy, hyx⟩ := hmu zFl.2.2 (3072 + -1 * i) rfl (zE_1 rfl)
              exact ih r1' fs3 h3 y hR6 hy (by omega)
          exact main2
        · cases k3
    exact main
  · cases k1
theorem zlawloop {S : Nat × (Nat → Int32)} (hS : S.1 ≤ 3072) : ∀ (N : Nat) (r1 : List Int) (fs : List (Nat × mF)) (h : mH) (x : Int), zRS zOmL ([(S.1 : Int)] ++ r1) zFl.1 fs h → zE ([(S.1 : Int)] ++ r1) zFl.2.2 x → x < N → zKK mi_P S 70 (fun y k => y = some (.int 1) ∧ k.length ≤ 600) fs h := by
  intro N
  induction N with
  | zero =>
    intro r1 fs h x hR hx hlt
    exfalso
    have hB : zB zFb ([(S.1 : Int)] ++ r1) := hR.2.2.1.1
    obtain ⟨y0, t0, z0, -, -, hB1⟩ := zB_uncons hB
    cases z0
    obtain ⟨y1, t1, rfl, i0, i1, hB2⟩ := zB_uncons hB1
    have := zE_fun hx (zE_1 (i := 1) (x := y1) rfl)
    omega
  | succ N ih =>
    intro r1 fs h x hR hx hlt
    have hB : zB zFb ([(S.1 : Int)] ++ r1) := hR.2.2.1.1
    obtain ⟨y0, t0, z0, -, -, hB1⟩ := zB_uncons hB
    cases z0
    obtain ⟨i, t1, rfl, i0, i1, hB2⟩ := zB_uncons hB1
    obtain ⟨T, t2, rfl, -, -, hB3⟩ := zB_uncons hB2
    obtain ⟨d, t3, rfl, -, -, hB4⟩ := zB_uncons hB3
    obtain ⟨u, t4, rfl, -, -, hB5⟩ := zB_uncons hB4
    obtain ⟨a, t5, rfl, -, -, hB6⟩ := zB_uncons hB5
    obtain ⟨w, t6, rfl, -, -, hB7⟩ := zB_uncons hB6
    have := zB_unnil hB7
    subst this
    have hx2 := zE_fun hx (zE_1 (i := 1) (x := i) rfl)
    have hLs : zLs true S [(S.1 : Int), i, T, d, u, a, w] := fun _ => ⟨rfl, by omega⟩
    have hJ := zOmL_st (W := zW0) (by decide +kernel)
    have hcal : zClO mi_P S zOmL (fun d y as t en => zcalL d y as t en zlaws) := zcalL_ok (fun ct hc => zOmL_up (zlawC ct hc))
    have hstop : ∀ s, zAst s = true → zG mi_P S 70 zOmL [(S.1 : Int), i, T, d, u, a, w] (fun y k => y = some (.int 1) ∧ k.length ≤ 600) s := by
      intro s hs r2 fs2 h2 hR2
      unfold zAst at hs
      rw [Bool.or_eq_true] at hs
      rcases hs with hs | hs
      · unfold zEnd at hs
        split at hs
        · rename_i pc l e t en
          rw [Bool.and_eq_true] at hs
          have hp := Nat.eq_of_beq_eq_true hs.1
          have he := zeqL_eq hs.2
          subst hp
          subst he
          obtain ⟨⟨l0, st0, fs', rfl, hl, hst, hfr⟩, -, -, hJ2⟩ := hR2
          have hfr : fs' = [] := hfr
          subst hfr
          obtain ⟨v, st1, rfl, g1, g2⟩ := zSt_c hst
          have g2 : st1 = [] := g2
          subst g2
          obtain ⟨k, rfl, gk⟩ := zR_int g1
          have hk1 : k = 1 := Int32.toInt_inj.mp (by rw [zE_Kx gk]; rfl)
          subst hk1
          exact mi_T_ri (v := 1) rfl (show mi_at mi_P 0 863 = .ireturn by decide +kernel) (by decide +kernel) ⟨rfl, hJ2.2⟩
        · cases hs
      · obtain ⟨pc, hpc, hs⟩ := List.any_eq_true.mp hs
        obtain ⟨rc, q1, q2, q3⟩ := zstg_ok hs hR2
        have e := zGe_eq0 (l := [(S.1 : Int), i, T, d, u, a, w]) q1 q2 (zGe_cons (zE_X rfl) (zGe_cons (zE_X rfl) (zGe_cons (zE_X rfl) (zGe_cons (zE_X rfl) (zGe_cons (zE_X rfl) (zGe_cons (zE_X rfl) (zGe_cons (zE_X rfl) zGe_nil)))))))
        subst e
        rcases zlawB pc hpc with rfl | hb
        · exact zcase37 hS ih q3 (by omega)
        · unfold zLcs at hb
          split at hb
          · rename_i q hq
            have hstop2 : ∀ s, zHd zFl.2.2 s = true → zG mi_P S 70 zOmL [(S.1 : Int), i, T, d, u, a, w] (fun y k => y = some (.int 1) ∧ k.length ≤ 600) s := by
              intro s hs r2 fs2 h2 hR2
              unfold zHd at hs
              rw [Bool.and_eq_true] at hs
              have hR3 : zRS zOmL ([(S.1 : Int)] ++ ([i, T, d, u, a, w] ++ r2)) s fs2 h2 := hR2
              obtain ⟨r1', hR', hmu⟩ := zmtc_ok (r0 := [(S.1 : Int)]) hs.2 hR3
              obtain ⟨y, hy, hyx⟩ := hmu zFl.2.2 (3072 + -1 * i) rfl (zE_1 rfl)
              exact ih r1' fs2 h2 y hR' hy (by omega)
            have := zstep_ok (P := mi_P) (D := 70) (W := zW0) (Ls := true) (nf := []) (fk := []) hLs hJ hcal hq (zrun_ok hLs hJ hcal hstop2 400 q hb)
            exact this [] fs2 h2 (by rw [List.append_nil]; exact q3)
          · cases hb
    have hA := zlawA
    split at hA
    · rename_i q hq
      have := zstep_ok (P := mi_P) (D := 70) (W := zW0) (Ls := true) (nf := []) (fk := []) hLs hJ hcal hq (zrun_ok hLs hJ hcal hstop 300 q hA)
      exact this [] fs h (by rw [List.append_nil]; exact hR)
    · cases hA
