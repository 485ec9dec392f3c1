/-! calls, returns; the whole step -/
/-- what a way of calling must keep -/
def zClO (P : mP) (S : Nat × (Nat → Int32)) (J : mH → Prop) (cal : zCl) : Prop := ∀ d y as t en q, cal d y as t en = some q → ∀ r xs h, J h → zEn en r → zHp r t h → zSt r as xs → mi_T P S d y (0, mi_ent 0 xs, []) h (fun x h' => J h' ∧ ∃ w ∈ q, ∃ s, zEn w.2.2 (r ++ s) ∧ zHp (r ++ s) w.2.1 h' ∧ zRo (r ++ s) w.1 x)
noncomputable def zcal (W : zW) (d y : Nat) (as : List zV) (t : zT) (en : zN) : List zCt → Option (List (Option zV × zT × zN))
  | [] => none
  | ct :: u => bif Nat.beq ct.1 y && Nat.ble ct.2.1 d then (match zap W en t as ct with
    | some q => some q
    | none => zcal W d y as t en u) else zcal W d y as t en u
section ZP
variable {P : mP} {S : Nat × (Nat → Int32)} {D : Nat} {W : zW} {J : mH → Prop} {r0 : List Int} {Q : Option Value → mH → Prop} {Ls : Bool} {nf fk : List (Nat × Nat)} {cal : zCl} {m pc : Nat} {l : List (Nat × zV)} {st : List zV} {fr : List zF} {t : zT} {en : zN} {ss : List zS}
theorem zcal_ok {Om : mH → Prop} {cts : List zCt} (hO : ∀ h, J h → Om h) (hJ : ∀ h h', J h → zsm W h h' → Om h' → J h') (hc : ∀ ct ∈ cts, zCtr P S Om ct) : zClO P S J (fun d y as t en => zcal W d y as t en cts) := by
  induction cts with
  | nil => intro d y as t en q h; cases h
  | cons ct u ih =>
    intro d y as t en q h r xs hh hj hE hH hs
    simp only [zcal, cond_eq_ite] at h
    split at h
    · rename_i hb
      rw [Bool.and_eq_true] at hb
      have hy := Nat.eq_of_beq_eq_true hb.1
      have hd := e_ble.mp hb.2
      split at h
      · rename_i q' hq'
        cases h
        subst hy
        exact mi_T_mono (zap_ok (hc ct (List.mem_cons_self ..)) hd (hO _ hj) hE hH hs hq') (fun x h' q => ⟨hJ _ _ hj q.1 q.2.1, q.2.2⟩)
      · exact ih (fun c hc' => hc c (List.mem_cons_of_mem _ hc')) d y as t en q h r xs hh hj hE hH hs
    · exact ih (fun c hc' => hc c (List.mem_cons_of_mem _ hc')) d y as t en q h r xs hh hj hE hH hs
theorem zrcv_ok {r : List Int} {rc : Nat} {as : List zV} {xs : List Value} {h : mH} (hH : zHp r t h) (hs : zSt r as xs) (hr : zrcv rc as t = true) : mi_rcv rc xs h = true := by
  unfold zrcv at hr
  split at hr
  · rfl
  · rename_i ci
    split at hr
    · rename_i k as'
      obtain ⟨x, st', rfl, h1, -⟩ := zSt_c hs
      have := zR_ref h1
      subst this
      rw [cond_eq_ite] at hr
      split at hr
      · rename_i hc
        have hc := Nat.eq_of_beq_eq_true hc
        rw [Bool.or_eq_true] at hr
        have hr : k = 1 ∨ k = 2 := hr.imp Nat.eq_of_beq_eq_true Nat.eq_of_beq_eq_true
        simp only [mi_rcv, hc, if_true, hr, decide_true]
      · rename_i hc
        have hc : ¬ ci = 13 := fun q => hc (by rw [q]; rfl)
        split at hr
        · rename_i c hcc
          obtain ⟨mm, e1, hK⟩ := hH _ c hcc
          obtain ⟨fs, rfl, -⟩ := zK_obj hK (Nat.eq_of_beq_eq_true hr)
          simp only [mi_rcv, if_neg hc, e1, beq_self_eq_true]
        · cases hr
    · cases hr
theorem zRo_st {r : List Int} {p : Option zV} {x : Option Value} {vs : List zV} {st0 : List Value} (h : zRo r p x) (h' : zSt r vs st0) : zSt r (p.toList ++ vs) (x.toList ++ st0) := by
  match p, h with
  | none, h => rw [show x = none from h]; exact h'
  | some v, ⟨y, h1, h2⟩ => rw [h1]; exact zSt_k h2 h'
theorem zo_call {y : Nat} (hcal : zClO P S J cal) (hg : ∀ s' ∈ ss, zG P S D J r0 Q s') (hi : mi_at P m pc = .invokevirtual y) (h : zx_call P D cal m pc l st fr t en y = some ss) : zG P S D J r0 Q ((m, pc, l, st) :: fr, t, en) := by
  unfold zx_call at h
  rw [cond_eq_ite] at h
  split at h
  · rename_i hb
    simp only [Bool.and_eq_true] at hb
    obtain ⟨b1, b2, b3, b4, b5⟩ := hb
    have b1 := e_ble.mp b1
    have b2 := e_ble.mp b2
    have b3 := e_ble.mp b3
    have b5 := e_blt.mp b5
    intro r1 fs hh hR
    obtain ⟨⟨l0, st0, fs', rfl, hl, hst, hfr⟩, hH, hE, hs⟩ := hR
    have hlen := zFs_len hfr
    have hargs := zSt_rev (zSt_take (P.get y).2.1 hst)
    have hrest := zSt_drop (P.get y).2.1 hst
    have ha : mi_args (P.get y).2.1 st0 = some ((st0.take (P.get y).2.1).reverse, st0.drop (P.get y).2.1) := by
      unfold mi_args
      rw [if_pos (by rw [zSt_len hst]; exact b1)]
    have h8 : ((st0.drop (P.get y).2.1).map fun v => v.category).sum ≤ 8 := by rw [zSt_cats hrest]; exact b2
    have hm : (((st0.take (P.get y).2.1).reverse).map fun v => v.category).sum ≤ (P.get y).2.2.2.2.1 := by
      rw [List.map_reverse, List.sum_reverse, zSt_cats (zSt_take (P.get y).2.1 hst)]
      exact b3
    have hrc := zrcv_ok hH hargs b4
    obtain ⟨d', hd'⟩ : ∃ d', D - fs'.length = d' + 1 := ⟨D - fs'.length - 1, by omega⟩
    show mi_T P S (D - fs'.length) m (pc, l0, st0) hh (zKs P S D Q fs')
    rw [hd']
    refine mi_T_ca hi ha h8 hm hrc ?_
    split at h
    · rename_i q hq
      cases h
      have hdd : D - fr.length - 1 = d' := by omega
      rw [hdd] at hq
      refine mi_T_mono (hcal _ _ _ _ _ _ hq _ _ _ hs hE hH hargs) ?_
      intro x h' ⟨hs', w, hw, s, f1, f2, f3⟩
      have := hg _ (List.mem_map.mpr ⟨w, hw, rfl⟩) (r1 ++ s) ((m, (pc + 1, l0, x.toList ++ st0.drop (P.get y).2.1)) :: fs') h' ⟨?_, ?_, ?_, ?_⟩
      · rw [← hd']; exact this
      · rw [← List.append_assoc]
        exact ⟨l0, _, fs', rfl, zLo_mono s hl, zRo_st f3 (zSt_mono s hrest), zFs_mono s hfr⟩
      · rw [← List.append_assoc]; exact f2
      · rw [← List.append_assoc]; exact f1
      · exact hs'
    · cases h
      have := hg _ (List.mem_singleton_self _) r1 ((y, (0, mi_ent 0 (st0.take (P.get y).2.1).reverse, [])) :: (m, (pc + 1, l0, st0.drop (P.get y).2.1)) :: fs') hh ⟨?_, hH, hE, hs⟩
      · have e1 : D - ((m, (pc + 1, l0, st0.drop (P.get y).2.1)) :: fs' : List (Nat × mF)).length = d' := by simp only [List.length_cons]; omega
        have this : mi_T P S (D - ((m, (pc + 1, l0, st0.drop (P.get y).2.1)) :: fs' : List (Nat × mF)).length) y (0, mi_ent 0 (st0.take (P.get y).2.1).reverse, []) hh (zKs P S D Q ((m, (pc + 1, l0, st0.drop (P.get y).2.1)) :: fs')) := this
        rw [e1] at this
        refine mi_T_mono this ?_
        intro x h' hk
        have hk : mi_T P S (D - fs'.length) m (pc + 1, l0, x.toList ++ st0.drop (P.get y).2.1) h' (zKs P S D Q fs') := hk
        rw [hd'] at hk
        exact hk
      · exact ⟨_, _, _, rfl, zent_ok 0 hargs, rfl, ⟨l0, _, fs', rfl, hl, hrest, hfr⟩⟩
  · cases h
theorem zretz_ok {r : List Int} {z : Nat} {v : zV} {x : Value} (hE : zEn en r) (h : zretz z en v = true) (hx : zR r v x) : ∃ i : Int32, x = .int i ∧ mi_retz z i = true := by
  unfold zretz at h
  rw [cond_eq_ite] at h
  split at h
  · rename_i hz
    have hz := Nat.eq_of_beq_eq_true hz
    subst hz
    match v, h, hx with
    | .inl e, _, hx =>
      obtain ⟨i, rfl, -⟩ := zR_int hx
      exact ⟨i, rfl, rfl⟩
    | .inr (.inl k), h, _ => cases h
    | .inr (.inr (.inl e)), h, _ => cases h
    | .inr (.inr (.inr p)), h, _ => cases h
  · rename_i hz0
    have hz0 : ¬ z = 0 := fun q => hz0 (by rw [q]; rfl)
    rw [cond_eq_ite] at h
    split at h
    · rename_i hz
      have hz := Nat.eq_of_beq_eq_true hz
      subst hz
      have hf := zfit_ok hE h hx
      match v, h, hx with
      | .inl e, _, hx =>
        obtain ⟨i, rfl, -⟩ := zR_int hx
        exact ⟨i, rfl, by simpa [mi_retz, mi_fit] using hf⟩
      | .inr (.inl k), h, _ => cases h
      | .inr (.inr (.inl e)), h, _ => cases h
      | .inr (.inr (.inr p)), h, _ => cases h
    · rename_i hz1
      have hz1 : ¬ z = 1 := fun q => hz1 (by rw [q]; rfl)
      match v, h, hx with
      | .inl e, h, hx =>
        obtain ⟨i, rfl, hi⟩ := zR_int hx
        have := zin_ok hE h hi
        exact ⟨i, rfl, by simp only [mi_retz, if_neg hz0, if_neg hz1, Bool.and_eq_true, decide_eq_true_eq]; exact this⟩
      | .inr (.inl k), h, _ => cases h
      | .inr (.inr (.inl e)), h, _ => cases h
      | .inr (.inr (.inr p)), h, _ => cases h
theorem zo_ret {k : Nat} (hg : ∀ s' ∈ ss, zG P S D J r0 Q s') (hi : (k = 0 ∧ mi_at P m pc = .return_) ∨ (k = 1 ∧ mi_at P m pc = .ireturn) ∨ (k = 2 ∧ mi_at P m pc = .lreturn) ∨ (k = 3 ∧ mi_at P m pc = .areturn)) (h : zx_ret P m st fr t en k = some ss) : zG P S D J r0 Q ((m, pc, l, st) :: fr, t, en) := by
  unfold zx_ret at h
  split at h
  · rename_i m1 pc1 l1 st1 fr'
    intro r1 fs hh hR
    obtain ⟨⟨l0, st0, fs', rfl, hl, hst, hfr⟩, hH, hE, hs⟩ := hR
    obtain ⟨l2, st2, fs'', rfl, hl2, hst2, hfr2⟩ := hfr
    show mi_T P S _ m (pc, l0, st0) hh (zKs P S D Q ((m1, (pc1, l2, st2)) :: fs''))
    split at h
    · cases h
      rcases hi with ⟨-, hi⟩ | ⟨q, -⟩ | ⟨q, -⟩ | ⟨q, -⟩
      · have hst : st0 = [] := hst
        subst hst
        refine mi_T_re rfl hi ?_
        exact hg _ (List.mem_singleton_self _) r1 ((m1, (pc1, l2, st2)) :: fs'') hh ⟨⟨l2, st2, fs'', rfl, hl2, hst2, hfr2⟩, hH, hE, hs⟩
      all_goals cases q
    · rename_i v
      rw [cond_eq_ite] at h
      split at h
      · rename_i hz
        cases h
        obtain ⟨x, s', rfl, g1, g2⟩ := zSt_c hst
        have g2 : s' = [] := g2
        subst g2
        obtain ⟨i, rfl, hzi⟩ := zretz_ok hE hz g1
        rcases hi with ⟨q, -⟩ | ⟨-, hi⟩ | ⟨q, -⟩ | ⟨q, -⟩
        · cases q
        · refine mi_T_ri rfl hi hzi ?_
          exact hg _ (List.mem_singleton_self _) r1 ((m1, (pc1, l2, .int i :: st2)) :: fs'') hh ⟨⟨l2, _, fs'', rfl, hl2, zSt_k g1 hst2, hfr2⟩, hH, hE, hs⟩
        · cases q
        · cases q
      · cases h
    · cases h
      obtain ⟨x, s', rfl, g1, g2⟩ := zSt_c hst
      have g2 : s' = [] := g2
      subst g2
      obtain ⟨i, rfl, -⟩ := zR_lng g1
      rcases hi with ⟨q, -⟩ | ⟨q, -⟩ | ⟨-, hi⟩ | ⟨q, -⟩
      · cases q
      · cases q
      · refine mi_T_rl rfl hi ?_
        exact hg _ (List.mem_singleton_self _) r1 ((m1, (pc1, l2, .long i :: st2)) :: fs'') hh ⟨⟨l2, _, fs'', rfl, hl2, zSt_k g1 hst2, hfr2⟩, hH, hE, hs⟩
      · cases q
    · cases h
      obtain ⟨x, s', rfl, g1, g2⟩ := zSt_c hst
      have g2 : s' = [] := g2
      subst g2
      have := zR_ref g1
      subst this
      rcases hi with ⟨q, -⟩ | ⟨q, -⟩ | ⟨q, -⟩ | ⟨-, hi⟩
      · cases q
      · cases q
      · cases q
      · refine mi_T_ra rfl hi ?_
        exact hg _ (List.mem_singleton_self _) r1 ((m1, (pc1, l2, .ref _ :: st2)) :: fs'') hh ⟨⟨l2, _, fs'', rfl, hl2, zSt_k g1 hst2, hfr2⟩, hH, hE, hs⟩
    · cases h
  · cases h
theorem zi2b_ok (x : Int32) : -128 ≤ (x.toInt8.toInt32).toInt ∧ (x.toInt8.toInt32).toInt ≤ 127 ∧ (-128 ≤ x.toInt → x.toInt ≤ 127 → (x.toInt8.toInt32).toInt = x.toInt) := by
  rw [Int8.toInt_toInt32, Int32.toInt_toInt8, Int.bmod_def]
  split <;> omega
theorem zi2c_ok (x : Int32) : 0 ≤ ((x.toUInt32 % 65536).toInt32).toInt ∧ ((x.toUInt32 % 65536).toInt32).toInt ≤ 65535 ∧ (0 ≤ x.toInt → x.toInt ≤ 65535 → ((x.toUInt32 % 65536).toInt32).toInt = x.toInt) := by
  have h1 := zI_nat ((x.toUInt32 % 65536).toInt32)
  have h2 := zI_nat x
  have e : ((x.toUInt32 % 65536).toInt32).toBitVec.toNat = x.toBitVec.toNat % 65536 := by
    show (x.toUInt32 % 65536).toBitVec.toNat = _
    rw [UInt32.toBitVec_mod, BitVec.toNat_umod]
    rfl
  rw [e] at h1
  have := Nat.mod_lt x.toBitVec.toNat (show 0 < 65536 by decide)
  split at h1 <;> split at h2 <;> omega
theorem zstep_ok {s : zS} (hLs : zLs Ls S r0) (hJ : ∀ h h', J h → zsm W h h' → J h') (hcal : zClO P S J cal) (h : zstep P D W Ls nf fk cal s = some ss) (hg : ∀ s' ∈ ss, zG P S D J r0 Q s') : zG P S D J r0 Q s := by
  match s, h with
  | ([], t, en), h => cases h
  | ((m, pc, l, st) :: fr, t, en), h =>
    simp only [zstep] at h
    split at h
    · rename_i c hi
      rw [cond_eq_ite] at h
      split at h
      · rename_i hb
        rw [Bool.and_eq_true, zle_iff, zle_iff] at hb
        exact zG_of hg (zo_iconst hi hb.1 hb.2 h)
      · cases h
    · rename_i c hi; exact zG_of hg (zo_long hi h)
    · rename_i k hi
      rw [cond_eq_ite] at h
      split at h
      · rename_i hk
        rw [Bool.or_eq_true] at hk
        exact zG_of hg (zo_ldc hi (hk.imp Nat.eq_of_beq_eq_true Nat.eq_of_beq_eq_true) h)
      · cases h
    · rename_i k hi
      rw [cond_eq_ite] at h
      split at h
      · rename_i hk
        have hk := Nat.eq_of_beq_eq_true hk
        subst hk
        exact zG_of hg (zo_gets hi h)
      · cases h
    · rename_i c hi; exact zG_of hg (zo_iload hi h)
    · rename_i c hi; exact zG_of hg (zo_lload hi h)
    · rename_i c hi; exact zG_of hg (zo_aload hi h)
    · rename_i c hi; exact zG_of hg (zo_istore hi h)
    · rename_i c hi; exact zG_of hg (zo_lstore hi h)
    · rename_i c hi; exact zG_of hg (zo_astore hi h)
    · rename_i c hi; exact zG_of hg (zo_iinc hi h)
    · rename_i hi; exact zG_of hg (zo_and hi h)
    · rename_i hi; exact zG_of hg (zo_lshl hi h)
    · rename_i hi; exact zG_of hg (zo_i2l hi h)
    · rename_i hi; exact zG_of hg (zo_nar (g := fun x => x.toInt8.toInt32) (fun f h => by rw [hi]; rfl) zi2b_ok h)
    · rename_i hi; exact zG_of hg (zo_nar (g := fun x => (x.toUInt32 % 65536).toInt32) (fun f h => by rw [hi]; rfl) zi2c_ok h)
    · rename_i hi; exact zG_of hg (zo_lcmp hi h)
    · rename_i hi; exact zG_of hg (zo_if hi h)
    · rename_i hi; exact zG_of hg (zo_icmp hi h)
    · rename_i hi; cases h; exact zG_of hg (zo_goto hi)
    · rename_i hi; exact zG_of hg (zo_table hi h)
    · rename_i hi; exact zG_of hg (zo_dup hi h)
    · rename_i hi; exact zG_of hg (zo_dup2 hi h)
    · rename_i hi; exact zG_of hg (zo_pop hi h)
    · rename_i hi; exact zG_of hg (zo_pop2 hi h)
    · rename_i q hi
      rw [cond_eq_ite] at h
      split at h
      · rename_i hk
        exact zG_of hg (zo_txt hi (Nat.eq_of_beq_eq_true hk) h)
      · rename_i hk
        exact zG_of hg (zo_getf hi (fun e => hk (by rw [e]; rfl)) h)
    · rename_i hi; exact zG_of hg (zo_putf hJ hi h)
    · rename_i hi; exact zG_of hg (zo_iald hLs hi h)
    · rename_i hi; exact zG_of hg (zo_bald hi h)
    · rename_i hi; exact zG_of hg (zo_lald hi h)
    · rename_i hi; exact zo_aald hg hi h
    · rename_i hi; exact zG_of hg (zo_iast hJ hi h)
    · rename_i hi; exact zG_of hg (zo_bast hJ hi h)
    · rename_i hi; exact zG_of hg (zo_last hJ hi h)
    · rename_i hi; exact zG_of hg (zo_alen hLs hi h)
    · rename_i k hi
      rw [cond_eq_ite] at h
      split at h
      · rename_i hk
        have hk := Nat.eq_of_beq_eq_true hk
        subst hk
        exact zG_of hg (zo_obj hi h)
      · rw [cond_eq_ite] at h
        split at h
        · rename_i hk
          have hk := Nat.eq_of_beq_eq_true hk
          subst hk
          exact zG_of hg (zo_copy hJ hi h)
        · rw [cond_eq_ite] at h
          split at h
          · rename_i hk
            have hk := Nat.eq_of_beq_eq_true hk
            subst hk
            exact zG_of hg (zo_mm (g0 := fun x y => if x < y then y else x) (fun f h => by rw [hi]; rfl) (fun h1 h2 h3 => zmx_ok h1 h2 h3) h)
          · rw [cond_eq_ite] at h
            split at h
            · rename_i hk
              have hk := Nat.eq_of_beq_eq_true hk
              subst hk
              exact zG_of hg (zo_mm (g0 := fun x y => if y < x then y else x) (fun f h => by rw [hi]; rfl) (fun h1 h2 h3 => zmn_ok h1 h2 h3) h)
            · cases h
    · rename_i hi; exact zo_call hcal hg hi h
    · rename_i hi; exact zo_ret hg (Or.inl ⟨rfl, hi⟩) h
    · rename_i hi; exact zo_ret hg (Or.inr (Or.inl ⟨rfl, hi⟩)) h
    · rename_i hi; exact zo_ret hg (Or.inr (Or.inr (Or.inl ⟨rfl, hi⟩))) h
    · rename_i hi; exact zo_ret hg (Or.inr (Or.inr (Or.inr ⟨rfl, hi⟩))) h
    · split at h
      · rename_i q hq
        cases h
        exact zG_of hg (zo_bin rfl hq)
      · exact zG_of hg (zo_lbin rfl h)
end ZP
