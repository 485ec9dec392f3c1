/-! arrays, the JDK's members -/
section ZK
variable {P : mP} {S : Nat × (Nat → Int32)} {D : Nat} {W : zW} {J : mH → Prop} {r0 : List Int} {Q : Option Value → mH → Prop} {Ls : Bool} {nf fk : List (Nat × Nat)} {m pc : Nat} {l : List (Nat × zV)} {st : List zV} {fr : List zF} {t : zT} {en : zN} {ss : List zS}
/-- an array's place read -/
theorem zo_ald {kd : Nat → Bool} (hLs : zLs Ls S r0) (hsc : Ls = true → mi_at P m pc = .iaload)
    (hcl : ∀ r l0 (hh : mH) (i : Int32) k st1 c mm, ¬ k = 0 → mi_c hh k = some mm → zKc r c mm → kd c.1 = true → mi_ix i c.2.1 = true → (i.toNatClampNeg : Int) = i.toInt → ∃ x, zslot mm i.toInt = some x ∧ mi_step S (mi_at P m pc) (pc, l0, .int i :: .ref k :: st1) hh = some ((pc + 1, l0, x :: st1), hh))
    (h : zx_ald Ls m pc l st fr t en kd = some ss) : zHy P S J r0 m pc l st fr t en ss := by
  unfold zx_ald at h
  split at h
  · rename_i e k st'
    rw [cond_eq_ite] at h
    split at h
    · rename_i hk
      have hk := Nat.eq_of_beq_eq_true hk
      subst hk
      rw [cond_eq_ite] at h
      split at h
      · rename_i hq
        simp only [Bool.and_eq_true] at hq
        obtain ⟨hL, -, hq1, hq2⟩ := hq
        obtain ⟨hl0, hl1⟩ := hLs hL
        have hi := hsc hL
        cases h
        intro r1 l0 st0 hh hl hst hH hE hs
        obtain ⟨x, st1, rfl, g1, g2⟩ := zSt_c hst
        obtain ⟨y, st2, rfl, g3, g4⟩ := zSt_c g2
        have := zR_ref g3
        subst this
        obtain ⟨i, rfl, g5⟩ := zR_int g1
        have hS : zE (r0 ++ r1) (zX 0) (S.1 : Int) := zE_mono r1 (zE_X hl0)
        have q1 := zEn_pr hE hq1 (zE_neg g5)
        have q2 := zEn_pr hE hq2 (zE_ac (zE_sub g5 hS))
        have hix : mi_ix i S.1 = true := by
          unfold mi_ix
          rw [Bool.and_eq_true, decide_eq_true_eq, decide_eq_true_eq]
          omega
        obtain ⟨s, f1, f2⟩ := zai_ok hE (S.2 i.toNatClampNeg)
        refine ⟨(pc + 1, l0, .int (S.2 i.toNatClampNeg) :: st2), hh, by rw [hi]; simp only [mi_step, mi_iald, if_true, hix], l, _, t, _, s, List.mem_singleton_self _, zLo_mono s hl, zSt_k (zR_mkI f2) (zSt_mono s g4), zHp_mono s hH, f1, hs⟩
      · cases h
    · rename_i hk
      have hk : ¬ k = 0 := fun q => hk (by rw [q]; rfl)
      split at h
      · rename_i c hc
        rw [cond_eq_ite] at h
        split at h
        · rename_i hq
          rw [Bool.and_eq_true] at hq
          cases hld : zld en c e with
          | nil => rw [hld] at h; cases h
          | cons a b =>
            rw [hld] at h
            cases h
            have hne : zld en c e ≠ [] := by rw [hld]; simp
            intro r1 l0 st0 hh hl hst hH hE hs
            obtain ⟨x, st1, rfl, g1, g2⟩ := zSt_c hst
            obtain ⟨y, st2, rfl, g3, g4⟩ := zSt_c g2
            have := zR_ref g3
            subst this
            obtain ⟨i, rfl, g5⟩ := zR_int g1
            obtain ⟨mm, e1, hK⟩ := hH k c hc
            obtain ⟨i1, i2, i3, i4, i5⟩ := zidx_ok hE hq.2 g5
            obtain ⟨x, hx, hstep⟩ := hcl _ l0 hh i k st2 c mm hk e1 hK hq.1 i1 i2
            obtain ⟨p, hp, s, f1, f2, f3, f4⟩ := zld_ok hE hK g5 hx hne
            rw [hld] at hp
            have f5 : zR (r0 ++ r1 ++ s) p.1 x := by
              refine ⟨f4, ?_⟩
              match hv : p.1, f3, f4 with
              | .inl e, f3, _ => exact f3
              | .inr (.inl k), f3, _ => exact f3
              | .inr (.inr (.inl e)), f3, _ => exact f3
              | .inr (.inr (.inr pp)), _, f4 => cases f4
            exact ⟨_, hh, hstep, l, p.1 :: st', zset t k p.2.1, p.2.2, s, List.mem_map.mpr ⟨p, hp, rfl⟩, zLo_mono s hl, zSt_k f5 (zSt_mono s g4), zHp_c (zHp_mono s hH) e1 f2, f1, hs⟩
        · cases h
      · cases h
  · cases h
theorem zslot_i {tt n : Nat} {g : Nat → Int32} {i : Int32} (h1 : mi_ix i n = true) (h2 : (i.toNatClampNeg : Int) = i.toInt) : zslot (.inl (tt, n, .inl g)) i.toInt = some (.int (g i.toNatClampNeg)) := by
  unfold mi_ix at h1
  rw [Bool.and_eq_true, decide_eq_true_eq, decide_eq_true_eq] at h1
  simp only [zslot]
  rw [if_pos ⟨h1.1, h1.2⟩]
  rfl
theorem zslot_l {tt n : Nat} {g : Nat → Int64} {i : Int32} (h1 : mi_ix i n = true) (h2 : (i.toNatClampNeg : Int) = i.toInt) : zslot (.inl (tt, n, .inr (.inl g))) i.toInt = some (.long (g i.toNatClampNeg)) := by
  unfold mi_ix at h1
  rw [Bool.and_eq_true, decide_eq_true_eq, decide_eq_true_eq] at h1
  simp only [zslot]
  rw [if_pos ⟨h1.1, h1.2⟩]
  rfl
theorem zo_iald (hLs : zLs Ls S r0) (hi : mi_at P m pc = .iaload) (h : zx_ald Ls m pc l st fr t en (fun d => Nat.beq d 0) = some ss) : zHy P S J r0 m pc l st fr t en ss := by
  refine zo_ald hLs (fun _ => hi) (fun r l0 hh i k st1 c mm hk e1 hK hkd h1 h2 => ?_) h
  have hkd := Nat.eq_of_beq_eq_true hkd
  obtain ⟨g, rfl⟩ := zK_ints hK (by omega)
  refine ⟨_, zslot_i h1 h2, ?_⟩
  rw [hi]
  simp only [mi_step, mi_iald, if_neg hk, e1, hkd, h1, and_self, if_true]
theorem zo_bald0 (hi : mi_at P m pc = .baload) (h : zx_ald false m pc l st fr t en (fun d => Nat.beq d 1 || Nat.beq d 2) = some ss) : zHy P S J r0 m pc l st fr t en ss := by
  refine zo_ald (Ls := false) (fun q => by cases q) (fun q => by cases q) (fun r l0 hh i k st1 c mm hk e1 hK hkd h1 h2 => ?_) h
  rw [Bool.or_eq_true] at hkd
  have hkd : c.1 = 1 ∨ c.1 = 2 := hkd.imp Nat.eq_of_beq_eq_true Nat.eq_of_beq_eq_true
  obtain ⟨g, rfl⟩ := zK_ints hK (by omega)
  refine ⟨_, zslot_i h1 h2, ?_⟩
  rw [hi]
  have h34 : ¬ (k = 3 ∨ k = 4) := by have := (mi_c_of e1).1; omega
  simp only [mi_step, mi_bald, if_neg h34, e1, hkd, h1, and_self, if_true]
theorem zbyt_b (k j : Nat) : -128 ≤ ((mi_byt.getD k []).getD j 0).toInt ∧ ((mi_byt.getD k []).getD j 0).toInt ≤ 127 := by
  have key : ∀ u ∈ mi_byt, ∀ b ∈ u, -128 ≤ b.toInt ∧ b.toInt ≤ 127 := by decide +kernel
  have hz : -128 ≤ (0 : Int32).toInt ∧ (0 : Int32).toInt ≤ 127 := by decide
  rw [List.getD_eq_getElem?_getD, List.getD_eq_getElem?_getD]
  cases h : mi_byt[k]? with
  | none => simp only [Option.getD_none, List.getElem?_nil]; exact hz
  | some u =>
    simp only [Option.getD_some]
    cases h2 : u[j]? with
    | none => simp only [Option.getD_none]; exact hz
    | some b => simp only [Option.getD_some]; exact key u (List.mem_of_getElem? h) b (List.mem_of_getElem? h2)
theorem zo_bald (hi : mi_at P m pc = .baload) (h : zx_bald m pc l st fr t en = some ss) : zHy P S J r0 m pc l st fr t en ss := by
  unfold zx_bald at h
  split at h
  · rename_i e k st'
    rw [cond_eq_ite] at h
    split at h
    · rename_i hk
      rw [Bool.or_eq_true] at hk
      have hk : k = 3 ∨ k = 4 := hk.imp Nat.eq_of_beq_eq_true Nat.eq_of_beq_eq_true
      rw [cond_eq_ite] at h
      split at h
      · rename_i hx
        cases h
        refine zHy_2 (fun r l0 st0 h hl0 hst hE => ?_)
        obtain ⟨x, st1, rfl, g1, g2⟩ := zSt_c hst
        obtain ⟨y, st2, rfl, g3, g4⟩ := zSt_c g2
        have := zR_ref g3
        subst this
        obtain ⟨i, rfl, g5⟩ := zR_int g1
        obtain ⟨i1, i2, i3, i4, i5⟩ := zidx_ok hE hx g5
        have hb := zbyt_b (k - 3) i.toNatClampNeg
        obtain ⟨s, f1, f2⟩ := zfr_ok hE hb.1 hb.2
        exact ⟨l0, .int ((mi_byt.getD (k - 3) []).getD i.toNatClampNeg 0) :: st2, s, by rw [hi]; simp only [mi_step, mi_bald, if_pos hk, i1, if_true], f1, zLo_mono s hl0, zSt_k (zR_mkI f2) (zSt_mono s g4)⟩
      · cases h
    · exact zo_bald0 hi h
  · cases h
theorem zo_lald (hi : mi_at P m pc = .laload) (h : zx_ald false m pc l st fr t en (fun d => Nat.beq d 3) = some ss) : zHy P S J r0 m pc l st fr t en ss := by
  refine zo_ald (Ls := false) (fun q => by cases q) (fun q => by cases q) (fun r l0 hh i k st1 c mm hk e1 hK hkd h1 h2 => ?_) h
  have hkd := Nat.eq_of_beq_eq_true hkd
  obtain ⟨g', rfl, -, h3, -⟩ := zK_arr hK (by omega)
  obtain ⟨g, rfl⟩ := h3 hkd
  refine ⟨_, zslot_l h1 h2, ?_⟩
  rw [hi]
  simp only [mi_step, mi_lald, e1, hkd, h1, and_self, if_true]
theorem zo_aald (hg : ∀ s' ∈ ss, zG P S D J r0 Q s') (hi : mi_at P m pc = .aaload) (h : zx_aald m pc l st fr t en = some ss) : zG P S D J r0 Q ((m, pc, l, st) :: fr, t, en) := by
  unfold zx_aald at h
  split at h
  · rename_i e k st'
    split at h
    · rename_i c hc
      rw [cond_eq_ite] at h
      split at h
      · rename_i hq
        rw [Bool.and_eq_true] at hq
        have hkd := Nat.eq_of_beq_eq_true hq.1
        split at h
        · rename_i j hj
          split at h
          · rename_i rr hf
            cases h
            refine zG_of hg ?_
            intro r1 l0 st0 hh hl hst hH hE hs
            obtain ⟨x, st1, rfl, g1, g2⟩ := zSt_c hst
            obtain ⟨y, st2, rfl, g3, g4⟩ := zSt_c g2
            have := zR_ref g3
            subst this
            obtain ⟨i, rfl, g5⟩ := zR_int g1
            obtain ⟨mm, e1, hK⟩ := hH k c hc
            obtain ⟨i1, i2, i3, i4, i5⟩ := zidx_ok hE hq.2 g5
            have hij := zcst_ok hj g5
            obtain ⟨j', x, e2, e3, e4⟩ := hK.2.2.2 _ (zfnd_ok hf)
            have := zE_fun e2 (zE_K (r := r0 ++ r1) (c := j))
            subst this
            have e4 : x = .ref rr := e4
            subst e4
            obtain ⟨g', rfl, -, -, h4⟩ := zK_arr hK (by omega)
            obtain ⟨g, rfl⟩ := h4 hkd
            simp only [zslot] at e3
            rw [if_pos ⟨by omega, by omega⟩] at e3
            rw [show j'.toNat = i.toNatClampNeg by omega] at e3
            cases hgi : g i.toNatClampNeg with
            | none => rw [hgi] at e3; cases e3
            | some r' =>
              rw [hgi] at e3
              cases e3
              refine ⟨(pc + 1, l0, .ref rr :: st2), hh, ?_, l, .inr (.inl rr) :: st', t, en, [], List.mem_singleton_self _, ?_, ?_, ?_, ?_, hs⟩
              · rw [hi]
                simp only [mi_step, mi_aald, e1, hkd, i1, and_self, if_true, hgi]
              · rw [List.append_nil]; exact hl
              · rw [List.append_nil]; exact zSt_k ⟨rfl, rfl⟩ g4
              · rw [List.append_nil]; exact hH
              · rw [List.append_nil]; exact hE
          · cases h
        · split at h
          · rename_i w hw
            cases h
            intro r1 fs hh hR
            obtain ⟨⟨l0, st0, fs', rfl, hl, hst, hfr⟩, hH, hE, hs⟩ := hR
            obtain ⟨x, st1, rfl, g1, g2⟩ := zSt_c hst
            obtain ⟨i, rfl, g5⟩ := zR_int g1
            obtain ⟨p, hp, e1, hE'⟩ := zfork_ok hE g5 hw
            refine hg _ (List.mem_map.mpr ⟨p, hp, rfl⟩) r1 _ hh ⟨⟨l0, _, fs', rfl, hl, ?_, hfr⟩, hH, hE', hs⟩
            exact zSt_k (zR_mkI (by rw [e1]; exact zE_K)) g2
          · cases h
      · cases h
    · cases h
  · cases h
theorem zo_iast (hJ : ∀ h h', J h → zsm W h h' → J h') (hi : mi_at P m pc = .iastore) (h : zx_iast W m pc l st fr t en = some ss) : zHy P S J r0 m pc l st fr t en ss := by
  unfold zx_iast at h
  split at h
  · rename_i v e k st'
    split at h
    · rename_i c hc
      rw [cond_eq_ite] at h
      split at h
      · rename_i hq
        simp only [Bool.and_eq_true] at hq
        obtain ⟨hq1, hq2, hq3, hq4⟩ := hq
        have hkd := Nat.eq_of_beq_eq_true hq1
        cases h
        intro r1 l0 st0 hh hl hst hH hE hs
        obtain ⟨x, st1, rfl, g1, g2⟩ := zSt_c hst
        obtain ⟨y, st2, rfl, g3, g4⟩ := zSt_c g2
        obtain ⟨y2, st3, rfl, g6, g7⟩ := zSt_c g4
        have := zR_ref g6
        subst this
        obtain ⟨a, rfl, ga⟩ := zR_int g1
        obtain ⟨i, rfl, g5⟩ := zR_int g3
        obtain ⟨mm, e1, hK⟩ := hH k c hc
        obtain ⟨i1, i2, i3, i4, i5⟩ := zidx_ok hE hq2 g5
        obtain ⟨g, rfl⟩ := zK_ints hK (by omega)
        have hslot := fun q => zslot_upd (tt := c.1) (g := g) (y := a) i3 q
        rw [i2] at hslot
        refine ⟨(pc + 1, l0, st3), mi_w hh k (.inl (c.1, c.2.1, .inl (upd g i.toNatClampNeg a))), ?_, l, st', _, en, [], List.mem_singleton_self _, ?_, ?_, ?_, ?_, ?_⟩
        · rw [hi]
          simp only [mi_step, mi_iast, e1, hkd, i1, and_self, if_true]
        · rw [List.append_nil]; exact hl
        · rw [List.append_nil]; exact g7
        · rw [List.append_nil]
          exact zHp_w hH e1 (zsto_ok hE hK g5 rfl id hslot ⟨a, rfl, ga⟩ (zpin_ok (v := .inl v) hE hq4 ⟨a, rfl, ga⟩ g5))
        · rw [List.append_nil]; exact hE
        · exact hJ _ _ hs (zsm_wa e1 rfl rfl rfl id hq3)
      · cases h
    · cases h
  · cases h
theorem zo_last (hJ : ∀ h h', J h → zsm W h h' → J h') (hi : mi_at P m pc = .lastore) (h : zx_last W m pc l st fr t en = some ss) : zHy P S J r0 m pc l st fr t en ss := by
  unfold zx_last at h
  split at h
  · rename_i v e k st'
    split at h
    · rename_i c hc
      rw [cond_eq_ite] at h
      split at h
      · rename_i hq
        simp only [Bool.and_eq_true] at hq
        obtain ⟨hq1, hq2, hq3, hq4⟩ := hq
        have hkd := Nat.eq_of_beq_eq_true hq1
        cases h
        intro r1 l0 st0 hh hl hst hH hE hs
        obtain ⟨x, st1, rfl, g1, g2⟩ := zSt_c hst
        obtain ⟨y, st2, rfl, g3, g4⟩ := zSt_c g2
        obtain ⟨y2, st3, rfl, g6, g7⟩ := zSt_c g4
        have := zR_ref g6
        subst this
        obtain ⟨a, rfl, ga⟩ := zR_lng g1
        obtain ⟨i, rfl, g5⟩ := zR_int g3
        obtain ⟨mm, e1, hK⟩ := hH k c hc
        obtain ⟨i1, i2, i3, i4, i5⟩ := zidx_ok hE hq2 g5
        obtain ⟨g', rfl, -, h3, -⟩ := zK_arr hK (by omega)
        obtain ⟨g, rfl⟩ := h3 hkd
        have hslot := fun q => zslot_updL (tt := c.1) (g := g) (y := a) i3 q
        rw [i2] at hslot
        refine ⟨(pc + 1, l0, st3), mi_w hh k (.inl (c.1, c.2.1, .inr (.inl (vp_updL g i.toNatClampNeg a)))), ?_, l, st', _, en, [], List.mem_singleton_self _, ?_, ?_, ?_, ?_, ?_⟩
        · rw [hi]
          simp only [mi_step, mi_last, e1, hkd, i1, and_self, if_true]
        · rw [List.append_nil]; exact hl
        · rw [List.append_nil]; exact g7
        · rw [List.append_nil]
          exact zHp_w hH e1 (zsto_ok hE hK g5 rfl id hslot ⟨a, rfl, ga⟩ (zpin_ok (v := .inr (.inr (.inl v))) hE hq4 ⟨a, rfl, ga⟩ g5))
        · rw [List.append_nil]; exact hE
        · exact hJ _ _ hs (zsm_wa e1 rfl rfl rfl id hq3)
      · cases h
    · cases h
  · cases h
theorem znar_b (a : Int32) : -128 ≤ (vp_nar .byte a).toInt ∧ (vp_nar .byte a).toInt ≤ 127 := by
  have e : vp_nar .byte a = a.toInt8.toInt32 := rfl
  rw [e, Int8.toInt_toInt32, Int32.toInt_toInt8, Int.bmod_def]
  split <;> omega
theorem znar_z {a : Int32} (h1 : 0 ≤ a.toInt) (h2 : a.toInt ≤ 1) : vp_nar .boolean a = a := by
  rcases (by omega : a.toInt = 0 ∨ a.toInt = 1) with q | q
  · rw [show a = 0 from Int32.toInt_inj.mp q]; rfl
  · rw [show a = 1 from Int32.toInt_inj.mp q]; rfl
theorem zo_bast (hJ : ∀ h h', J h → zsm W h h' → J h') (hi : mi_at P m pc = .bastore) (h : zx_bast W m pc l st fr t en = some ss) : zHy P S J r0 m pc l st fr t en ss := by
  unfold zx_bast at h
  split at h
  · rename_i v e k st'
    split at h
    · rename_i c hc
      rw [cond_eq_ite] at h
      split at h
      · rename_i hq
        rw [Bool.and_eq_true] at hq
        rw [cond_eq_ite] at h
        split at h
        · rename_i hkd
          have hkd := Nat.eq_of_beq_eq_true hkd
          split at h
          · rename_i lo hi' hdf
            rw [cond_eq_ite] at h
            split at h
            · rename_i hb
              rw [Bool.and_eq_true, zle_iff, zle_iff] at hb
              cases h
              intro r1 l0 st0 hh hl hst hH hE hs
              obtain ⟨x, st1, rfl, g1, g2⟩ := zSt_c hst
              obtain ⟨y, st2, rfl, g3, g4⟩ := zSt_c g2
              obtain ⟨y2, st3, rfl, g6, g7⟩ := zSt_c g4
              have := zR_ref g6
              subst this
              obtain ⟨a, rfl, ga⟩ := zR_int g1
              obtain ⟨i, rfl, g5⟩ := zR_int g3
              obtain ⟨mm, e1, hK⟩ := hH k c hc
              obtain ⟨i1, i2, i3, i4, i5⟩ := zidx_ok hE hq.1 g5
              obtain ⟨g, rfl⟩ := zK_ints hK (by omega)
              have hslot := fun q => zslot_upd (tt := c.1) (g := g) (y := vp_nar .byte a) i3 q
              rw [i2] at hslot
              have hnb := znar_b a
              refine ⟨(pc + 1, l0, st3), mi_w hh k (.inl (c.1, c.2.1, .inl (upd g i.toNatClampNeg (vp_nar .byte a)))), ?_, l, st', _, en, [], List.mem_singleton_self _, ?_, ?_, ?_, ?_, ?_⟩
              · rw [hi]
                simp only [mi_step, mi_bast, e1, hkd, i1, if_true]
              · rw [List.append_nil]; exact hl
              · rw [List.append_nil]; exact g7
              · rw [List.append_nil]
                refine zHp_w hH e1 (zsto_ok (j := i.toInt) (x := .int (vp_nar .byte a)) hE hK g5 rfl id hslot ⟨_, rfl, hnb.1, hnb.2⟩ ?_)
                rw [hdf]
                exact ⟨_, rfl, by omega, by omega⟩
              · rw [List.append_nil]; exact hE
              · exact hJ _ _ hs (zsm_wa e1 rfl rfl rfl id hq.2)
            · cases h
          · cases h
        · rw [cond_eq_ite] at h
          split at h
          · rename_i hb
            simp only [Bool.and_eq_true] at hb
            obtain ⟨hkd, hb1, hb2⟩ := hb
            have hkd := Nat.eq_of_beq_eq_true hkd
            cases h
            intro r1 l0 st0 hh hl hst hH hE hs
            obtain ⟨x, st1, rfl, g1, g2⟩ := zSt_c hst
            obtain ⟨y, st2, rfl, g3, g4⟩ := zSt_c g2
            obtain ⟨y2, st3, rfl, g6, g7⟩ := zSt_c g4
            have := zR_ref g6
            subst this
            obtain ⟨a, rfl, ga⟩ := zR_int g1
            obtain ⟨i, rfl, g5⟩ := zR_int g3
            obtain ⟨mm, e1, hK⟩ := hH k c hc
            obtain ⟨i1, i2, i3, i4, i5⟩ := zidx_ok hE hq.1 g5
            obtain ⟨g, rfl⟩ := zK_ints hK (by omega)
            have hslot := fun q => zslot_upd (tt := c.1) (g := g) (y := a) i3 q
            rw [i2] at hslot
            have hz := zin_ok hE hb1 ga
            refine ⟨(pc + 1, l0, st3), mi_w hh k (.inl (c.1, c.2.1, .inl (upd g i.toNatClampNeg a))), ?_, l, st', _, en, [], List.mem_singleton_self _, ?_, ?_, ?_, ?_, ?_⟩
            · rw [hi]
              simp only [mi_step, mi_bast, e1, hkd, i1, if_true, znar_z hz.1 hz.2]
              rfl
            · rw [List.append_nil]; exact hl
            · rw [List.append_nil]; exact g7
            · rw [List.append_nil]
              exact zHp_w hH e1 (zsto_ok hE hK g5 rfl id hslot ⟨a, rfl, ga⟩ (zpin_ok (v := .inl v) hE hb2 ⟨a, rfl, ga⟩ g5))
            · rw [List.append_nil]; exact hE
            · exact hJ _ _ hs (zsm_wa e1 rfl rfl rfl id hq.2)
          · cases h
      · cases h
    · cases h
  · cases h
theorem zo_alen (hLs : zLs Ls S r0) (hi : mi_at P m pc = .arraylength) (h : zx_alen Ls m pc l st fr t en = some ss) : zHy P S J r0 m pc l st fr t en ss := by
  have hofn : ∀ {n : Nat}, n ≤ 10000 → (Int32.ofNat n).toInt = n := by
    intro n hn
    rw [show Int32.ofNat n = Int32.ofInt (n : Int) from rfl]
    exact zofI (by omega) (by omega)
  unfold zx_alen at h
  split at h
  · rename_i k st'
    rw [cond_eq_ite] at h
    split at h
    · rename_i hk
      have hk := Nat.eq_of_beq_eq_true hk
      subst hk
      rw [cond_eq_ite] at h
      split at h
      · rename_i hL
        obtain ⟨hl0, hl1⟩ := hLs hL
        cases h
        intro r1 l0 st0 hh hl hst hH hE hs
        obtain ⟨x, st1, rfl, g1, g2⟩ := zSt_c hst
        have := zR_ref g1
        subst this
        refine ⟨(pc + 1, l0, .int (Int32.ofNat S.1) :: st1), hh, by rw [hi]; simp only [mi_step, mi_alen, if_true], l, _, t, en, [], List.mem_singleton_self _, ?_, ?_, ?_, ?_, hs⟩
        · rw [List.append_nil]; exact hl
        · rw [List.append_nil]; exact zSt_k (zR_mkI (by rw [hofn hl1]; exact zE_mono r1 (zE_X hl0))) g2
        · rw [List.append_nil]; exact hH
        · rw [List.append_nil]; exact hE
      · cases h
    · rename_i hk
      have hk : ¬ k = 0 := fun q => hk (by rw [q]; rfl)
      rw [cond_eq_ite] at h
      split at h
      · rename_i hk3
        rw [Bool.or_eq_true] at hk3
        have hk3 : k = 3 ∨ k = 4 := hk3.imp Nat.eq_of_beq_eq_true Nat.eq_of_beq_eq_true
        cases h
        refine zHy_1 (fun r l0 st0 h hl0 hst hE => ?_)
        obtain ⟨x, st1, rfl, g1, g2⟩ := zSt_c hst
        have := zR_ref g1
        subst this
        have hle : (mi_byt.getD (k - 3) []).length ≤ 10000 := by rcases hk3 with rfl | rfl <;> decide +kernel
        exact ⟨l0, .int (Int32.ofNat (mi_byt.getD (k - 3) []).length) :: st1, by rw [hi]; simp only [mi_step, mi_alen, if_neg hk, if_pos hk3], hl0, zSt_k (zR_mkI (by rw [hofn hle]; exact zE_K)) g2⟩
      rename_i hk3
      have hk3 : ¬ (k = 3 ∨ k = 4) := fun q => hk3 (by rcases q with rfl | rfl <;> rfl)
      split at h
      · rename_i c hc
        rw [cond_eq_ite] at h
        split at h
        · rename_i hq
          rw [Bool.and_eq_true] at hq
          have hq1 := e_blt.mp hq.1
          have hq2 := e_ble.mp hq.2
          cases h
          intro r1 l0 st0 hh hl hst hH hE hs
          obtain ⟨x, st1, rfl, g1, g2⟩ := zSt_c hst
          have := zR_ref g1
          subst this
          obtain ⟨mm, e1, hK⟩ := hH k c hc
          obtain ⟨g', rfl, -⟩ := zK_arr hK hq1
          refine ⟨(pc + 1, l0, .int (Int32.ofNat c.2.1) :: st1), hh, by rw [hi]; simp only [mi_step, mi_alen, if_neg hk, if_neg hk3, e1, hq1, if_true], l, _, t, en, [], List.mem_singleton_self _, ?_, ?_, ?_, ?_, hs⟩
          · rw [List.append_nil]; exact hl
          · rw [List.append_nil]; exact zSt_k (zR_mkI (by rw [hofn hq2]; exact zE_K)) g2
          · rw [List.append_nil]; exact hH
          · rw [List.append_nil]; exact hE
        · cases h
      · cases h
  · cases h
theorem zo_obj (hi : mi_at P m pc = .invokedynamic 0) (h : zx_obj m pc l st fr t en = some ss) : zHy P S J r0 m pc l st fr t en ss := by
  unfold zx_obj at h
  split at h
  · rw [cond_eq_ite] at h
    split at h
    · rename_i hq
      have hq := e_ble.mp hq
      cases h
      refine zHy_1 (fun r l0 st0 h hl0 hst hE => ?_)
      obtain ⟨x, st1, rfl, g1, g2⟩ := zSt_c hst
      have := zR_ref g1
      subst this
      exact ⟨l0, st1, by rw [hi]; simp only [mi_step, mi_obj, if_true, zSt_cats g2, hq], hl0, g2⟩
    · cases h
  · cases h
theorem zo_mm {g : zN → zL → zL → zL × zN} {g0 : Int32 → Int32 → Int32} (hi : ∀ f h, mi_step S (mi_at P m pc) f h = mi_mm g0 f h) (hg : ∀ {r : List Int} {a b : zL} {x y : Int32}, zEn en r → zE r a x.toInt → zE r b y.toInt → zRs r (g en a b) (g0 x y).toInt) (h : zx_mm m pc l st fr t en g = some ss) : zHy P S J r0 m pc l st fr t en ss := by
  unfold zx_mm at h
  split at h
  · rw [cond_eq_ite] at h
    split at h
    · rename_i hq
      have hq := e_ble.mp hq
      cases h
      refine zHy_2 (fun r l0 st0 h hl0 hst hE => ?_)
      obtain ⟨x, st1, rfl, g1, g2⟩ := zSt_c hst
      obtain ⟨y, rfl, g3⟩ := zR_int g1
      obtain ⟨x', st2, rfl, g4, g5⟩ := zSt_c g2
      obtain ⟨x, rfl, g6⟩ := zR_int g4
      obtain ⟨s, q1, q2⟩ := hg hE g6 g3
      exact ⟨l0, .int (g0 x y) :: st2, s, by rw [hi]; simp only [mi_mm, zSt_cats g5, hq, if_true], q1, zLo_mono s hl0, zSt_k (zR_mkI q2) (zSt_mono s g5)⟩
    · cases h
  · cases h
theorem zfree_ok {p : zP} {j j' : Int} {x : Value} (h : zfree p = true) (hx : zD p j x) : zD p j' x := by
  unfold zfree at h
  split at h
  · exact hx
  · exact hx
  · cases h
theorem zo_copy (hJ : ∀ h h', J h → zsm W h h' → J h') (hi : mi_at P m pc = .invokedynamic 1) (h : zx_copy W m pc l st fr t en = some ss) : zHy P S J r0 m pc l st fr t en ss := by
  unfold zx_copy at h
  split at h
  · rename_i x dp k1 sp k0 st'
    split at h
    · rename_i c0 c1 hc0 hc1
      rw [cond_eq_ite] at h
      split at h
      · rename_i hq
        simp only [Bool.and_eq_true] at hq
        obtain ⟨a1, a2, a3, a4, a5, a6, a7, a8, a9, a10, a11, a12⟩ := hq
        have a1 := Nat.eq_of_beq_eq_true a1
        have a2 := Nat.eq_of_beq_eq_true a2
        have a8 := e_ble.mp a8
        have core : ∀ (r1 : List Int) l0 st0 (hh : mH), zLo (r0 ++ r1) l l0 → zSt (r0 ++ r1) (.inl x :: .inl dp :: .inr (.inl k1) :: .inl sp :: .inr (.inl k0) :: st') st0 → zHp (r0 ++ r1) t hh → zEn en (r0 ++ r1) → J hh →
            ∃ (xi di si : Int32) (st1 : List Value) (f0 g : Nat → Int32), zE (r0 ++ r1) x xi.toInt ∧ zE (r0 ++ r1) dp di.toInt ∧ zE (r0 ++ r1) sp si.toInt ∧ zSt (r0 ++ r1) st' st1 ∧ mi_c hh k0 = some (.inl (c0.1, c0.2.1, .inl f0)) ∧ mi_c hh k1 = some (.inl (c1.1, c1.2.1, .inl g)) ∧ zKc (r0 ++ r1) c0 (.inl (c0.1, c0.2.1, .inl f0)) ∧ zKc (r0 ++ r1) c1 (.inl (c1.1, c1.2.1, .inl g)) ∧
              mi_step S (mi_at P m pc) (pc, l0, st0) hh = some ((pc + 1, l0, st1), mi_w hh k1 (.inl (c1.1, c1.2.1, .inl (va_cpy f0 g si.toNatClampNeg di.toNatClampNeg xi.toNatClampNeg)))) ∧ J (mi_w hh k1 (.inl (c1.1, c1.2.1, .inl (va_cpy f0 g si.toNatClampNeg di.toNatClampNeg xi.toNatClampNeg)))) ∧ 0 ≤ xi.toInt ∧ 0 ≤ di.toInt ∧ 0 ≤ si.toInt ∧ si.toInt + xi.toInt ≤ c0.2.1 ∧ di.toInt + xi.toInt ≤ c1.2.1 ∧
              (∀ j y, zslot (.inl (c1.1, c1.2.1, .inl (va_cpy f0 g si.toNatClampNeg di.toNatClampNeg xi.toNatClampNeg))) j = some y → zD c1.2.2.1 j y) := by
          intro r1 l0 st0 hh hl hst hH hE hs
          obtain ⟨v1, s1, rfl, g1, t1⟩ := zSt_c hst
          obtain ⟨v2, s2, rfl, g2, t2⟩ := zSt_c t1
          obtain ⟨v3, s3, rfl, g3, t3⟩ := zSt_c t2
          obtain ⟨v4, s4, rfl, g4, t4⟩ := zSt_c t3
          obtain ⟨v5, s5, rfl, g5, t5⟩ := zSt_c t4
          obtain ⟨xi, rfl, p1⟩ := zR_int g1
          obtain ⟨di, rfl, p2⟩ := zR_int g2
          have := zR_ref g3
          subst this
          obtain ⟨si, rfl, p4⟩ := zR_int g4
          have := zR_ref g5
          subst this
          obtain ⟨m0, e0, hK0⟩ := hH k0 c0 hc0
          obtain ⟨m1, e1, hK1⟩ := hH k1 c1 hc1
          obtain ⟨f0, rfl⟩ := zK_ints hK0 (by omega)
          obtain ⟨g, rfl⟩ := zK_ints hK1 (by omega)
          have b3 := znon_ok hE a3 p1
          have b4 := znon_ok hE a4 p2
          have b5 := znon_ok hE a5 p4
          have n0 : Int.neg (c0.2.1 : Int) = - (c0.2.1 : Int) := rfl
          have n1 : Int.neg (c1.2.1 : Int) = - (c1.2.1 : Int) := rfl
          have b6 := zEn_pr hE a6 (zE_ac (zE_add p4 p1))
          have b7 := zEn_pr hE a7 (zE_ac (zE_add p2 p1))
          rw [n0] at b6
          rw [n1] at b7
          have hstep : mi_step S (mi_at P m pc) (pc, l0, Value.int xi :: Value.int di :: Value.ref k1 :: Value.int si :: Value.ref k0 :: s5) hh = some ((pc + 1, l0, s5), mi_w hh k1 (.inl (c1.1, c1.2.1, .inl (va_cpy f0 g si.toNatClampNeg di.toNatClampNeg xi.toNatClampNeg)))) := by
            rw [hi]
            have hs1 : ∀ f h, mi_step S (.invokedynamic 1) f h = mi_copy f h := fun _ _ => rfl
            rw [hs1]
            simp only [mi_copy, e0, e1]
            rw [if_pos ⟨a1, a2, b3, b4, b5, by omega, by omega, by rw [zSt_cats t5]; exact a8⟩]
          refine ⟨xi, di, si, s5, f0, g, p1, p2, p4, t5, e0, e1, hK0, hK1, hstep, hJ _ _ hs (zsm_wa e1 rfl rfl rfl id a9), b3, b4, b5, by omega, by omega, ?_⟩
          intro j y hy
          simp only [zslot] at hy
          split at hy
          · rename_i hj
            have hy := Option.some.inj hy
            unfold va_cpy at hy
            have hxn : xi.toNatClampNeg = xi.toInt.toNat := rfl
            have hdn : di.toNatClampNeg = di.toInt.toNat := rfl
            have hsn : si.toNatClampNeg = si.toInt.toNat := rfl
            split at hy
            · rename_i hin
              have hsl : zslot (.inl (c0.1, c0.2.1, .inl f0)) ((si.toNatClampNeg + (j.toNat - di.toNatClampNeg) : Nat) : Int) = some y := by
                simp only [zslot]
                rw [if_pos ⟨by omega, by omega⟩, ← hy, show (((si.toNatClampNeg + (j.toNat - di.toNatClampNeg) : Nat) : Int)).toNat = si.toNatClampNeg + (j.toNat - di.toNatClampNeg) from Int.toNat_natCast _]
              have hd := hK0.2.2.1 _ _ hsl
              have := zpin_ok (v := zpat c0.2.2.1) hE a10 (zfree_ok (j' := 0) a11 hd) zE_K
              exact zfree_ok a12 this
            · refine hK1.2.2.1 j y ?_
              simp only [zslot]
              rw [if_pos hj, ← hy]
          · cases hy
        rw [cond_eq_ite] at h
        split at h
        · rename_i hw
          simp only [Bool.and_eq_true] at hw
          obtain ⟨w1, w2, w3, w4⟩ := hw
          have w1 := zeqL_eq w1
          have w2 := Nat.eq_of_beq_eq_true w2
          have w3 := zeqL_eq w3
          have w4 := zeqL_eq w4
          cases h
          intro r1 l0 st0 hh hl hst hH hE hs
          obtain ⟨xi, di, si, st1, f0, g, g1, g2, g3, g4, e0, e1, hK0, hK1, hstep, hsm, -, -, -, -, -, hdf⟩ := core r1 l0 st0 hh hl hst hH hE hs
          have x1 := znrm_ok hE.1 g1
          rw [w1] at x1
          have x1 := zE_fun x1 zE_K
          have x2 := znrm_ok hE.1 g2
          rw [w4] at x2
          have x2 := zE_fun x2 zE_K
          have x3 := znrm_ok hE.1 g3
          rw [w3] at x3
          have x3 := zE_fun x3 zE_K
          refine ⟨_, _, hstep, l, st', _, en, [], List.mem_singleton_self _, ?_, ?_, ?_, ?_, hsm⟩
          · rw [List.append_nil]; exact hl
          · rw [List.append_nil]; exact g4
          · rw [List.append_nil]
            refine zHp_w hH e1 ⟨hK1.1, rfl, hdf, fun q hq => ?_⟩
            obtain ⟨j, y, h1, h2, h3⟩ := hK0.2.2.2 q hq
            refine ⟨j, y, h1, ?_, h3⟩
            have hxn : xi.toNatClampNeg = xi.toInt.toNat := rfl
            have hdn : di.toNatClampNeg = di.toInt.toNat := rfl
            have hsn : si.toNatClampNeg = si.toInt.toNat := rfl
            simp only [zslot] at h2 ⊢
            split at h2
            · rename_i hj
              rw [if_pos (by rw [← w2]; exact hj), ← h2]
              unfold va_cpy
              rw [if_pos (by omega)]
              congr 3
              omega
            · cases h2
          · rw [List.append_nil]; exact hE
        · cases h
          intro r1 l0 st0 hh hl hst hH hE hs
          obtain ⟨xi, di, si, st1, f0, g, g1, g2, g3, g4, e0, e1, hK0, hK1, hstep, hsm, -, -, -, -, -, hdf⟩ := core r1 l0 st0 hh hl hst hH hE hs
          refine ⟨_, _, hstep, l, st', _, en, [], List.mem_singleton_self _, ?_, ?_, ?_, ?_, hsm⟩
          · rw [List.append_nil]; exact hl
          · rw [List.append_nil]; exact g4
          · rw [List.append_nil]
            exact zHp_w hH e1 ⟨hK1.1, rfl, hdf, fun q hq => by cases hq⟩
          · rw [List.append_nil]; exact hE
      · cases h
    · cases h
  · cases h
end ZK
