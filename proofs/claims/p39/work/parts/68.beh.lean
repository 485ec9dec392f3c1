/-! behindUnit(), by hand: the joints that are taken off the pile -/
def zf13 (p : Int) (fs : List (Nat × mF)) : Prop := ∃ (l0 : List (Nat × Value)) (i : Int32), fs = [(195, (13, l0, []))] ∧ mi_lg l0 0 = some (.ref 469) ∧ mi_lg l0 1 = some (.int i) ∧ i.toInt = p
theorem zf13_to {p : Int} {r : List Int} {e : zL} {fs : List (Nat × mF)} (h : zf13 p fs) (he : zE r e p) : zFs r [(195, 13, [(1, .inl e), (0, .inr (.inl 469))], [])] fs := by
  obtain ⟨l0, i, rfl, h0, h1, h2⟩ := h
  refine ⟨l0, [], [], rfl, ?_, rfl, rfl⟩
  intro q hq
  simp only [List.mem_cons, List.not_mem_nil, or_false] at hq
  rcases hq with rfl | rfl
  · exact ⟨_, h1, i, rfl, by rw [h2]; exact he⟩
  · exact ⟨_, h0, rfl⟩
theorem zf13_of {p : Int} {r : List Int} {e : zL} {fs : List (Nat × mF)} (h : zFs r [(195, 13, [(1, .inl e), (0, .inr (.inl 469))], [])] fs) (he : zE r e p) : zf13 p fs := by
  obtain ⟨l0, st0, fs', rfl, hl, hst, hfr⟩ := h
  have hst : st0 = [] := hst
  have hfr : fs' = [] := hfr
  subst hst
  subst hfr
  obtain ⟨x, a1, i, rfl, a2⟩ := hl _ (List.mem_cons_self ..)
  obtain ⟨y, b1, b2⟩ := hl _ (List.mem_cons_of_mem _ (List.mem_cons_self ..))
  have b2 : y = .ref 469 := b2
  exact ⟨l0, i, rfl, by rw [b1, b2], a1, zE_fun a2 he⟩
def zpS : zSt0 := [(469, 73, zK 38, .inl (zX 0)), (469, 73, zK 36, .inl (zX 1)), (469, 73, zK 37, .inl (zX 2)), (492, 90, (-1, [(0, 1)]), .inl (zX 3)), (493, 90, (-1, [(0, 1)]), .inl (zX 4))]
noncomputable def zpT : zT := zads zT0 zpS
theorem zp_c : zadc zT0 zpS = true := by decide +kernel
def zpB (lo hi wl : Int) : zBd := [(2, 60), (0, 1119), (wl, 7), (lo, hi), (-2147483648, 2147483647), (0, 6)]
def zpL : List (Nat × zV) := [(1, .inl (zX 5)), (0, .inr (.inl 469))]
noncomputable def zp0 (lo hi wl : Int) : zS := ([(195, 13, zpL, [])], zpT, zpB lo hi wl, [(0, [(3, -1), (5, 1)])], [])
def zpK : List zV := [.inl (zK 0), .inl (zX 4), .inr (.inl 469)]
noncomputable def zp1t (dw : Int) : zT := zads zT0 [(469, 73, zK 38, .inl (-1, [(0, 1)])), (469, 73, zK 36, .inl (zX 1)), (469, 73, zK 37, .inl (dw, [(2, 1)]))]
noncomputable def zp1 (lo hi wl dw : Int) : zS := ([(195, 57, zpL, zpK)], zp1t dw, zpB lo hi wl, [], [])
noncomputable def zp2 (lo hi wl dw : Int) : zS := ([(195, 13, zpL, [])], zads zT0 [(469, 73, zK 38, .inl (-1, [(0, 1)])), (469, 73, zK 36, .inl (1, [(1, 1)])), (469, 73, zK 37, .inl (dw, [(2, 1)])), (490, 1120, zX 1, .inl (zX 4))], zpB lo hi wl, [], [])
def zi6 : List zL := [zX 0, zX 1, zX 2, zX 3, zX 4, zX 5]
def znC : zCl := fun _ _ _ _ _ => none
theorem znC_ok {S : Nat × (Nat → Int32)} {J : mH → Prop} : zClO mi_P S J znC := by
  intro d y as t en q h
  cases h
def zWq : zW := .leaf (470, [37, 38])
def znF : zS → Bool := fun _ => false
noncomputable def zpq (lo hi wl dw : Int) : Option (List (Option zV × zT × zN)) := zap zw_3004 (zpB lo hi wl, [], []) (zp1t dw) (zpK.take (mi_P.get zc_3004.1).2.1).reverse zc_3004
noncomputable def zpk1 (lo hi wl dw : Int) : Bool := zrun (zstep mi_P 4 zWq false [] [] znC) (fun s => ([(zp1 lo hi wl dw, zi6, [])] : List zTg).any (zstg s) || znF s) 300 [zp0 lo hi wl]
noncomputable def zpk2 (lo hi wl dw : Int) : Bool := match zpq lo hi wl dw with
  | some q => q.all (fun w => zrun (zstep mi_P 4 zW0 false [] [] znC) (fun s => ([(zp2 lo hi wl dw, zi6, [])] : List zTg).any (zstg s) || znF s) 50 [((195, 57 + 1, zpL, w.1.toList ++ zpK.drop (mi_P.get zc_3004.1).2.1) :: [], w.2.1, w.2.2)])
  | none => false
noncomputable def zpk3 (lo hi wl dw : Int) : Bool := ztle (zpB lo hi wl, [], []) [] (zp1t dw) zT0 && (ztle (zpB lo hi wl, [], []) [] (zp2 lo hi wl dw).2.1 zT0 && (zhcb mi_P 4 zc_3004.1 zpK [] (zp1t dw) && (zchk (zp1t dw) 469 (zK 36) (zX 1) && (zchk (zp2 lo hi wl dw).2.1 469 (zK 38) (-1, [(0, 1)]) && (zchk (zp2 lo hi wl dw).2.1 469 (zK 36) (1, [(1, 1)]) && (zchk (zp2 lo hi wl dw).2.1 469 (zK 37) (dw, [(2, 1)]) && zchk (zp2 lo hi wl dw).2.1 490 (zX 1) (zX 4)))))))
theorem zpk_a : (zpk1 1 2 0 0 && (zpk2 1 2 0 0 && zpk3 1 2 0 0)) = true := by decide +kernel
theorem zpk_b : (zpk1 3 3 1 (-1) && (zpk2 3 3 1 (-1) && zpk3 3 3 1 (-1))) = true := by decide +kernel
theorem zpk_c : (zpk1 4 6 0 0 && (zpk2 4 6 0 0 && zpk3 4 6 0 0)) = true := by decide +kernel
/-- one joint taken off -/
theorem zpop1 {S : Nat × (Nat → Int32)} {Q : Option Value → mH → Prop} {h : mH} {p lo hi wl dw : Int} {fs : List (Nat × mF)} (hk : (zpk1 lo hi wl dw && (zpk2 lo hi wl dw && zpk3 lo hi wl dw)) = true) (hT : zHp [] zT0 h) (p1 : 2 ≤ zI h 469 38) (p2 : zI h 469 38 ≤ 60) (n1 : 0 ≤ zI h 469 36) (n2 : zI h 469 36 ≤ 1119) (w1 : wl ≤ zI h 469 37) (w2 : zI h 469 37 ≤ 7) (t1 : lo ≤ zI h 492 (zI h 469 38 - 1)) (t2 : zI h 492 (zI h 469 38 - 1) ≤ hi) (r1 : 0 ≤ p) (r2 : p ≤ 6) (r3 : p ≤ zI h 492 (zI h 469 38 - 1)) (hfs : zf13 p fs)
    (hg : ∀ h2 fs2, zHp [] zT0 h2 → zf13 p fs2 → (∃ h1, zsm zWq h h1 ∧ zsm zw_3004 h1 h2) → zI h2 469 38 = zI h 469 38 - 1 → zI h2 469 36 = zI h 469 36 + 1 → zI h2 469 37 = zI h 469 37 + dw → zI h2 490 (zI h 469 36) = zI h 493 (zI h 469 38 - 1) → (∀ j : Int, 0 ≤ j → j < 1120 → j ≠ zI h 469 36 → zI h2 490 j = zI h 490 j) → zKK mi_P S 4 Q fs2 h2) : zKK mi_P S 4 Q fs h := by
  rw [Bool.and_eq_true, Bool.and_eq_true] at hk
  obtain ⟨hk1, hk2, hk3⟩ := hk
  unfold zpk3 at hk3
  simp only [Bool.and_eq_true] at hk3
  obtain ⟨c1, c2, c3, c4, c5, c6, c7, c8⟩ := hk3
  have s1 := zT_s hT (j := zI h 469 38 - 1) (by omega) (by omega)
  have hB : zB (zpB lo hi wl) [zI h 469 38, zI h 469 36, zI h 469 37, zI h 492 (zI h 469 38 - 1), zI h 493 (zI h 469 38 - 1), p] := zB_cons p1 p2 (zB_cons n1 n2 (zB_cons w1 w2 (zB_cons t1 t2 (zB_cons s1.1 s1.2 (zB_cons r1 r2 zB_nil)))))
  have hix : zE [zI h 469 38, zI h 469 36, zI h 469 37, zI h 492 (zI h 469 38 - 1), zI h 493 (zI h 469 38 - 1), p] (-1, [(0, 1)]) (zI h 469 38 - 1) := zE_v (zE_1 rfl) (by omega)
  have hR : zRS (fun k => zsm zWq h k) [zI h 469 38, zI h 469 36, zI h 469 37, zI h 492 (zI h 469 38 - 1), zI h 493 (zI h 469 38 - 1), p] (zp0 lo hi wl) fs h := ⟨zf13_to hfs (zE_X rfl), zads_ok (sp := zpS) (zHp_mono _ hT) zp_c ⟨⟨38, zE_K, by omega, by omega, zE_X rfl⟩, ⟨36, zE_K, by omega, by omega, zE_X rfl⟩, ⟨37, zE_K, by omega, by omega, zE_X rfl⟩, ⟨_, hix, by omega, by omega, zE_X rfl⟩, ⟨_, hix, by omega, by omega, zE_X rfl⟩, trivial⟩, zEn_mk hB (zFa_cons (zE_2 rfl rfl) (by omega) zFa_nil), zsm_rf⟩
  refine zseg (tg := [(zp1 lo hi wl dw, zi6, [])]) (fin := znF) (fun h1 h2 q z => zsm_tr q z (fun _ _ z => z)) znC_ok hk1 hR ?_ (fun s hs => by cases hs)
  intro F hF r1' rc fs1 h1 q1 q2 q3
  have hF := List.mem_singleton.mp hF
  subst hF
  have := zGe_eq0 (l := [zI h 469 38, zI h 469 36, zI h 469 37, zI h 492 (zI h 469 38 - 1), zI h 493 (zI h 469 38 - 1), p]) q1 q2 (zGe_cons (zE_X rfl) (zGe_cons (zE_X rfl) (zGe_cons (zE_X rfl) (zGe_cons (zE_X rfl) (zGe_cons (zE_X rfl) (zGe_cons (zE_X rfl) zGe_nil))))))
  subst this
  obtain ⟨k1, k2, k3, k4⟩ := q3
  have hT1 : zHp [] zT0 h1 := zHp_T k3 c1 k2
  have e36 : zI h1 469 36 = zI h 469 36 := zI_ck k2 c4 zE_K (zE_X rfl)
  have e490 : zI h1 490 = zI h 490 := funext (zI_sm k4 (by decide +kernel))
  unfold zpk2 at hk2
  split at hk2
  · rename_i q hq
    refine zhc (ct := zc_3004) (W := zw_3004) (Z := fun _ h2 => ∀ j : Int, 0 ≤ j → j < 1120 → j ≠ zI h 469 36 → zI h2 490 j = zI h 490 j) (r := [zI h 469 38, zI h 469 36, zI h 469 37, zI h 492 (zI h 469 38 - 1), zI h 493 (zI h 469 38 - 1), p]) (by decide +kernel) c3 hq (by decide +kernel) ?_ ⟨k1, k2, k3, k4⟩ ?_
    · intro xs rc hB1 hF1 hA1 hH1
      obtain ⟨x, as1, rfl, hx, y, as2, rfl, ⟨i, rfl, hi⟩, z, as3, rfl, ⟨i2, rfl, hi2⟩, h3⟩ := hA1
      have h3 : as3 = [] := h3
      subst h3
      have hx : x = .ref 469 := hx
      subst hx
      have M1 := (zt_3004 (S := S)).2 3 (Nat.zero_le _) rc [.ref 469, .int i, .int i2] h1 trivial hB1 hF1 ⟨_, _, rfl, rfl, _, _, rfl, ⟨i, rfl, hi⟩, _, _, rfl, ⟨i2, rfl, hi2⟩, rfl⟩ hH1
      have M2 := zemit (S := S) (D := 3) (x0 := i) (d0 := i2) hT1 (by omega) (by omega)
      refine mi_T_mono (mi_T_and M1 M2) ?_
      rintro x h2 ⟨⟨z1, -⟩, -, z2⟩
      refine ⟨z1, fun j j0 j1 j2 => ?_⟩
      rw [z2 j j0 j1 (by omega), e490]
    · intro w hw s x h2 fs2 hsm hZ hro hR2
      have hrun := List.all_eq_true.mp hk2 w hw
      have hR3 : zRS (fun k => zsm zW0 h2 k) ([zI h 469 38, zI h 469 36, zI h 469 37, zI h 492 (zI h 469 38 - 1), zI h 493 (zI h 469 38 - 1), p] ++ s) _ fs2 h2 := ⟨hR2.1, hR2.2.1, hR2.2.2.1, zsm_rf⟩
      refine zseg (tg := [(zp2 lo hi wl dw, zi6, [])]) (fin := znF) (fun h1 h2 q z => zsm_tr q z (fun _ _ z => z)) znC_ok hrun hR3 ?_ (fun s hs => by cases hs)
      intro F hF r1' rc fs3 h3 q1 q2 q3
      have hF := List.mem_singleton.mp hF
      subst hF
      have := zGe_eq0 (l := [zI h 469 38, zI h 469 36, zI h 469 37, zI h 492 (zI h 469 38 - 1), zI h 493 (zI h 469 38 - 1), p]) q1 q2 (zGe_cons (zE_X rfl) (zGe_cons (zE_X rfl) (zGe_cons (zE_X rfl) (zGe_cons (zE_X rfl) (zGe_cons (zE_X rfl) (zGe_cons (zE_X rfl) zGe_nil))))))
      subst this
      obtain ⟨m1, m2, m3, m4⟩ := q3
      refine hg h3 fs3 (zHp_T m3 c2 m2) (zf13_of m1 (zE_X rfl)) ⟨h1, k4, zsm_tr hsm m4 (fun k j z => by rw [zW0_no] at z; cases z)⟩ ?_ ?_ ?_ ?_ ?_
      · rw [zI_ck m2 c5 zE_K (zE_1 rfl)]; omega
      · rw [zI_ck m2 c6 zE_K (zE_1 rfl)]; omega
      · rw [zI_ck m2 c7 zE_K (zE_1 rfl)]; omega
      · exact zI_ck m2 c8 (zE_X rfl) (zE_X rfl)
      · intro j j0 j1 j2
        rw [zI_sm m4 (by decide +kernel) j]
        exact hZ j j0 j1 j2
  · cases hk2
