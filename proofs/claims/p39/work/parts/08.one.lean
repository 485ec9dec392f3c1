/-! any instruction that is no call and no return -/
section MIO
variable {p : Program} {l : Launch} {e : Env} {R : Room} {s : State} {m : MethodId} {args : Array Value} {below : List Frame} {meth : Method} {c : Code} {cells slots : Nat} {Q : State → Prop}
variable {av : Nat → Nat} {z : Nat} {S : Nat × (Nat → Int32)} {cA dC : Nat → ClassId} {dI : Nat → Nat → Nat}
variable {cc : ByteArray} {own : String} {ini : Bool} {nL : Nat} {rp : Nat → Nat} {hint len : Nat} {ri : Instr} {h h' : mH} {f f' : mF}
theorem mi_lenP {pc : Nat} {a : Instr} {n k : Nat} (h : decode cc pc = .ok (a, n)) (e1 : n = k) : decode cc pc = .ok (a, k) := e1 ▸ h
set_option maxHeartbeats 4000000 in
theorem mi_one {i : Instr} (X : mi_X cc own ini nL p s m args meth c) (K : mi_K av cA dC dI s) (hzs : z ≤ s.heap.size) (hf : 1 ≤ R.frames) (hlo : 64 ≤ R.locals) (hst : mi_step S i f h = some (f', h')) (hok : mi_ok own ini nL rp f.1 hint i ri len = true) (hdg : decode cc (rp f.1) = .ok (ri, len)) (hc1 : cells + h'.length ≤ R.cells + h.length) (hc2 : slots + mi_sz h' ≤ R.slots + mi_sz h) (k : ∀ cells' slots', cells' + h.length = cells + h'.length → slots' + mi_sz h = slots + mi_sz h' → mi_V p l e R s m args below meth c Q av z S cA dC dI nL rp h' f' cells' slots') : mi_V p l e R s m args below meth c Q av z S cA dC dI nL rp h f cells slots := by
  have X0 := X
  obtain ⟨hx, hb, hml, hown, hts, hini⟩ := X0
  have k0 : h'.length = h.length → mi_sz h' = mi_sz h → mi_V p l e R s m args below meth c Q av z S cA dC dI nL rp h' f' cells slots := fun a b => k cells slots (by omega) (by omega)
  cases i
  case iconst v =>
    simp only [mi_step] at hst
    have hh : h' = h := by cases hst; rfl
    have k1 := k0 (by rw [hh]) (by rw [hh])
    simp only [mi_ok, Bool.and_eq_true, decide_eq_true_eq] at hok
    obtain ⟨hn, hr⟩ := hok
    split at hr <;> simp only [Bool.and_eq_true, decide_eq_true_eq, mi_has_w, Bool.false_eq_true] at hr
    · obtain ⟨h1, rfl⟩ := hr
      exact mi_q_push hst hn (fun _ => rfl) (fun H locs ls rest w => lv_iconst hx hb hdg h1 w) k1
    · obtain ⟨h1, rfl⟩ := hr
      exact mi_q_push hst hn (fun _ => rfl) (fun H locs ls rest w => lv_bipush hx hb hdg h1 w) k1
    · obtain ⟨h1, rfl⟩ := hr
      exact mi_q_push hst hn (fun _ => rfl) (fun H locs ls rest w => lv_sipush hx hb hdg h1 w) k1
    · obtain ⟨h1, rfl⟩ := hr
      exact mi_q_push hst hn (fun _ => rfl) (fun H locs ls rest w => lv_ldc hx hb hown (hts _ (mi_tbw h1.1 h1.2)) hdg w) k1
    · obtain ⟨h1, rfl⟩ := hr
      exact mi_q_push hst hn (fun _ => rfl) (fun H locs ls rest w => lv_ldcw hx hb hown (hts _ (mi_tbw h1.1 h1.2)) hdg w) k1
  case ldc2_w v =>
    simp only [mi_step] at hst
    have hh : h' = h := by cases hst; rfl
    have k1 := k0 (by rw [hh]) (by rw [hh])
    simp only [mi_ok, Bool.and_eq_true, decide_eq_true_eq] at hok
    obtain ⟨hn, hr⟩ := hok
    split at hr <;> simp only [Bool.and_eq_true, decide_eq_true_eq, mi_has_w, Bool.false_eq_true] at hr
    · obtain ⟨h1, rfl⟩ := hr
      exact mi_q_push hst hn (fun _ => rfl) (fun H locs ls rest w => lv_lconst hx hb hdg h1 w) k1
    · obtain ⟨h1, rfl⟩ := hr
      exact mi_q_push hst hn (fun _ => rfl) (fun H locs ls rest w => lv_ldc2 hx hb hown (hts _ (mi_tbw h1.1 h1.2)) hdg w) k1
  case iload v =>
    simp only [mi_step] at hst
    have hh : h' = h := by unfold mi_iload at hst; split at hst <;> cases hst; rfl
    have k1 := k0 (by rw [hh]) (by rw [hh])
    simp only [mi_ok, Bool.and_eq_true, decide_eq_true_eq] at hok
    obtain ⟨hn, hr⟩ := hok
    split at hr <;> simp only [Bool.and_eq_true, decide_eq_true_eq, Bool.false_eq_true] at hr
    · obtain ⟨h1, rfl⟩ := hr
      exact mi_q_iload hst hn (fun H locs ls rest x hl w => lv_iload_n hx hb hdg h1 hl w) k1
    · obtain ⟨rfl, rfl⟩ := hr
      exact mi_q_iload hst hn (fun H locs ls rest x hl w => lv_iload hx hb hdg hl w) k1
  case lload v =>
    simp only [mi_step] at hst
    have hh : h' = h := by unfold mi_lload at hst; split at hst <;> cases hst; rfl
    have k1 := k0 (by rw [hh]) (by rw [hh])
    simp only [mi_ok, Bool.and_eq_true, decide_eq_true_eq] at hok
    obtain ⟨hn, hr⟩ := hok
    split at hr <;> simp only [Bool.and_eq_true, decide_eq_true_eq, Bool.false_eq_true] at hr
    · obtain ⟨h1, rfl⟩ := hr
      exact mi_q_lload hst hn (fun H locs ls rest x hl w => lv_lload_n hx hb hdg h1 hl w) k1
    · obtain ⟨rfl, rfl⟩ := hr
      exact mi_q_lload hst hn (fun H locs ls rest x hl w => lv_lload hx hb hdg hl w) k1
  case aload v =>
    simp only [mi_step] at hst
    have hh : h' = h := by unfold mi_aload at hst; split at hst <;> cases hst; rfl
    have k1 := k0 (by rw [hh]) (by rw [hh])
    simp only [mi_ok, Bool.and_eq_true, decide_eq_true_eq] at hok
    obtain ⟨hn, hr⟩ := hok
    split at hr <;> simp only [Bool.and_eq_true, decide_eq_true_eq, Bool.false_eq_true] at hr
    · obtain ⟨h1, rfl⟩ := hr
      exact mi_q_aload hst hn (fun H locs ls rest x hl w => lv_aload_n hx hb hdg h1 hl w) k1
    · obtain ⟨rfl, rfl⟩ := hr
      exact mi_q_aload hst hn (fun H locs ls rest x hl w => lv_aload hx hb hdg hl w) k1
  case istore v =>
    simp only [mi_step] at hst
    have hh : h' = h := by unfold mi_istore at hst; split at hst <;> cases hst; rfl
    have k1 := k0 (by rw [hh]) (by rw [hh])
    simp only [mi_ok, Bool.and_eq_true, decide_eq_true_eq] at hok
    obtain ⟨hn, hv, hr⟩ := hok
    split at hr <;> simp only [Bool.and_eq_true, decide_eq_true_eq, Bool.false_eq_true] at hr
    · obtain ⟨h1, rfl⟩ := hr
      exact mi_q_istore hst hn (fun H locs ls rest x lv lv' hl he w => lv_istore_n hx hb hdg h1 hl hv he w) k1
    · obtain ⟨rfl, rfl⟩ := hr
      exact mi_q_istore hst hn (fun H locs ls rest x lv lv' hl he w => lv_istore hx hb hdg hl hv he w) k1
  case lstore v =>
    simp only [mi_step] at hst
    have hh : h' = h := by unfold mi_lstore at hst; split at hst <;> cases hst; rfl
    have k1 := k0 (by rw [hh]) (by rw [hh])
    simp only [mi_ok, Bool.and_eq_true, decide_eq_true_eq] at hok
    obtain ⟨hn, hv, hr⟩ := hok
    split at hr <;> simp only [Bool.and_eq_true, decide_eq_true_eq, Bool.false_eq_true] at hr
    · obtain ⟨h1, rfl⟩ := hr
      exact mi_q_lstore hst hn (fun H locs ls rest x lv lv' hl he w => lv_lstore_n hx hb hdg h1 hl hv he w) k1
    · obtain ⟨rfl, rfl⟩ := hr
      exact mi_q_lstore hst hn (fun H locs ls rest x lv lv' hl he w => lv_lstore hx hb hdg hl hv he w) k1
  case astore v =>
    simp only [mi_step] at hst
    have hh : h' = h := by unfold mi_astore at hst; split at hst <;> cases hst; rfl
    have k1 := k0 (by rw [hh]) (by rw [hh])
    simp only [mi_ok, Bool.and_eq_true, decide_eq_true_eq] at hok
    obtain ⟨hn, hv, hr⟩ := hok
    split at hr <;> simp only [Bool.and_eq_true, decide_eq_true_eq, Bool.false_eq_true] at hr
    · obtain ⟨h1, rfl⟩ := hr
      exact mi_q_astore hst hn (fun H locs ls rest x lv lv' hl he w => lv_astore_n hx hb hdg h1 hl hv he w) k1
    · obtain ⟨rfl, rfl⟩ := hr
      exact mi_q_astore hst hn (fun H locs ls rest x lv lv' hl he w => lv_astore hx hb hdg hl hv he w) k1
  case iinc v a =>
    simp only [mi_step] at hst
    have hh : h' = h := by unfold mi_iinc at hst; split at hst <;> cases hst; rfl
    have k1 := k0 (by rw [hh]) (by rw [hh])
    simp only [mi_ok, Bool.and_eq_true, decide_eq_true_eq] at hok
    obtain ⟨hn, hv, rfl, rfl⟩ := hok
    exact mi_q_iinc hx hb hst hn hv hdg k1
  case ifCond cd t =>
    simp only [mi_step] at hst
    have hh : h' = h := by unfold mi_if at hst; split at hst <;> cases hst; rfl
    have k1 := k0 (by rw [hh]) (by rw [hh])
    simp only [mi_ok, Bool.and_eq_true, decide_eq_true_eq] at hok
    obtain ⟨hn, hr⟩ := hok
    split at hr <;> simp only [Bool.and_eq_true, decide_eq_true_eq, Bool.false_eq_true, mi_tgt] at hr
    obtain ⟨rfl, ht, rfl⟩ := hr
    exact mi_q_if hx hb hst hn ht hdg k1
  case if_icmp cd t =>
    simp only [mi_step] at hst
    have hh : h' = h := by unfold mi_icmp at hst; split at hst <;> cases hst; rfl
    have k1 := k0 (by rw [hh]) (by rw [hh])
    simp only [mi_ok, Bool.and_eq_true, decide_eq_true_eq] at hok
    obtain ⟨hn, hr⟩ := hok
    split at hr <;> simp only [Bool.and_eq_true, decide_eq_true_eq, Bool.false_eq_true, mi_tgt] at hr
    obtain ⟨rfl, ht, rfl⟩ := hr
    exact mi_q_icmp hx hb hst hn ht hdg k1
  case goto t =>
    simp only [mi_step] at hst
    have hh : h' = h := by cases hst; rfl
    have k1 := k0 (by rw [hh]) (by rw [hh])
    simp only [mi_ok] at hok
    split at hok <;> simp only [Bool.and_eq_true, decide_eq_true_eq, Bool.false_eq_true, mi_tgt] at hok
    obtain ⟨ht, rfl⟩ := hok
    exact mi_q_goto hx hb hst ht hdg k1
  case tableswitch d lo hi offs =>
    simp only [mi_step] at hst
    have hh : h' = h := by
      unfold mi_table at hst
      split at hst
      · split at hst
        · cases hst; rfl
        · split at hst <;> cases hst; rfl
      · cases hst
    have k1 := k0 (by rw [hh]) (by rw [hh])
    simp only [mi_ok] at hok
    split at hok <;> simp only [Bool.and_eq_true, decide_eq_true_eq, Bool.false_eq_true] at hok
    obtain ⟨ht, rfl, rfl, hsz, hall⟩ := hok
    exact mi_q_table hx hb hst ht hsz hall hdg k1
  case getfield q =>
    simp only [mi_step] at hst
    have hh : h' = h := by
      unfold mi_getf mi_txt at hst
      repeat' split at hst
      all_goals first | (cases hst; done) | (cases hst; rfl)
    have k1 := k0 (by rw [hh]) (by rw [hh])
    simp only [mi_ok, Bool.and_eq_true, decide_eq_true_eq] at hok
    obtain ⟨hn, hr⟩ := hok
    split at hr <;> simp only [Bool.and_eq_true, Bool.or_eq_true, decide_eq_true_eq, Bool.false_eq_true] at hr
    obtain ⟨h1, rfl⟩ := hr
    by_cases hq : q / 128 = 13
    · rw [if_pos hq] at hst
      rcases h1 with h1 | h1
      · unfold mi_fl at h1
        rw [hq, List.getElem?_eq_none (by rw [mi_mcl_len]; omega)] at h1
        cases h1
      · exact mi_q_txt X hzs hst hn h1 hdg k1
    · rw [if_neg hq] at hst
      rcases h1 with h1 | h1
      · exact mi_q_getf X K hst hn h1 hdg k1
      · unfold mi_fls at h1
        simp only [Bool.or_eq_true, Bool.and_eq_true, decide_eq_true_eq] at h1
        omega
  case ldc i =>
    simp only [mi_step] at hst
    split at hst
    · rename_i hi
      have hh : h' = h := by cases hst; rfl
      have k1 := k0 (by rw [hh]) (by rw [hh])
      simp only [mi_ok, Bool.and_eq_true, decide_eq_true_eq] at hok
      obtain ⟨hn, hr⟩ := hok
      split at hr
      · split at hr
        · rename_i q hq
          simp only [Bool.and_eq_true, decide_eq_true_eq] at hr
          obtain ⟨h1, h2, rfl⟩ := hr
          exact mi_q_ldc X K hi hq h1 h2 hst hn hdg k1
        · cases hr
      · cases hr
    · cases hst
  case getstatic j =>
    simp only [mi_step] at hst
    simp only [mi_ok, Bool.and_eq_true, decide_eq_true_eq] at hok
    obtain ⟨hn, hr⟩ := hok
    split at hr <;> simp only [Bool.and_eq_true, decide_eq_true_eq, Bool.false_eq_true] at hr
    obtain ⟨hr, rfl⟩ := hr
    split at hst
    · rename_i hj
      have hh : h' = h := by cases hst; rfl
      have k1 := k0 (by rw [hh]) (by rw [hh])
      rw [if_pos hj] at hr
      exact mi_q_gets X hzs (fun H hE => hE.2.1) hr hst hn hdg k1
    · rename_i hj
      split at hst
      · have hh : h' = h := by cases hst; rfl
        have k1 := k0 (by rw [hh]) (by rw [hh])
        rw [if_neg hj] at hr
        exact mi_q_gets X hzs (fun H hE => hE.2.2) hr hst hn hdg k1
      · cases hst
  case iushr =>
    simp only [mi_step] at hst
    simp only [mi_ok, Bool.and_eq_true, decide_eq_true_eq] at hok
    obtain ⟨hn, rfl, rfl⟩ := hok
    have hh : h' = h := by
      unfold mi_ii at hst
      repeat' split at hst
      all_goals first | (cases hst; done) | (cases hst; rfl)
    have k1 := k0 (by rw [hh]) (by rw [hh])
    exact mi_q_ii hst hn (fun H locs ls rest x y r hr w => by cases hr; exact lv_iushr hx hb hdg rfl w) k1
  case putfield q =>
    simp only [mi_step] at hst
    have hh : h'.length = h.length ∧ mi_sz h' = mi_sz h := by
      unfold mi_putf at hst
      repeat' split at hst
      all_goals first | (cases hst; done) | skip
      rename_i hc hi
      cases hst
      obtain ⟨h3, hcell⟩ := mi_c_of hc
      exact ⟨mi_w_len _ _ _, mi_sz_set hcell (by simp [mi_csz])⟩
    have k1 := k0 hh.1 hh.2
    simp only [mi_ok, Bool.and_eq_true, decide_eq_true_eq] at hok
    obtain ⟨hn, hr⟩ := hok
    split at hr <;> simp only [Bool.and_eq_true, decide_eq_true_eq, Bool.false_eq_true] at hr
    obtain ⟨h1, h2, rfl⟩ := hr
    exact mi_q_putf X K hzs hst hn h1 h2 hdg k1
  case newarray t =>
    simp only [mi_step] at hst
    simp only [mi_ok, Bool.and_eq_true, decide_eq_true_eq] at hok
    obtain ⟨hn, rfl, hw, rfl⟩ := hok
    exact mi_q_newa X K hzs hst hn hw hdg hc1 hc2 k
  case anewarray ci =>
    simp only [mi_step] at hst
    simp only [mi_ok, Bool.and_eq_true, decide_eq_true_eq] at hok
    obtain ⟨hn, hr⟩ := hok
    split at hr <;> simp only [Bool.and_eq_true, decide_eq_true_eq, Bool.false_eq_true] at hr
    obtain ⟨hw, rfl⟩ := hr
    exact mi_q_newq X K hzs hst hn hw hdg hc1 hc2 k
  case new ci =>
    simp only [mi_step] at hst
    simp only [mi_ok, Bool.and_eq_true, decide_eq_true_eq] at hok
    obtain ⟨hn, hr⟩ := hok
    split at hr
    · split at hr
      · rename_i C T N hcl
        simp only [Bool.and_eq_true, decide_eq_true_eq] at hr
        obtain ⟨hw, rfl⟩ := hr
        exact mi_q_new X K hzs hst hn hcl hw hdg hc1 hc2 k
      · cases hr
    · cases hr
  case invokedynamic a =>
    simp only [mi_step] at hst
    simp only [mi_ok, Bool.and_eq_true, decide_eq_true_eq] at hok
    obtain ⟨hn, hr⟩ := hok
    split at hr <;> simp only [Bool.and_eq_true, decide_eq_true_eq, Bool.false_eq_true] at hr
    · obtain ⟨rfl, hw, rfl⟩ := hr
      rw [if_pos rfl] at hst
      have hh : h' = h := by
        unfold mi_obj at hst
        repeat' split at hst
        all_goals first | (cases hst; done) | (cases hst; rfl)
      exact mi_q_obj X hst hn hw hdg hf hlo (k0 (by rw [hh]) (by rw [hh]))
    · obtain ⟨rfl, hr⟩ := hr
      split at hr
      · rename_i hk; subst hk
        rw [if_neg (by decide), if_pos rfl] at hst
        have hh : h'.length = h.length ∧ mi_sz h' = mi_sz h := by
          unfold mi_copy at hst
          repeat' split at hst
          all_goals first | (cases hst; done) | skip
          rename_i hc0 hc hi
          cases hst
          obtain ⟨h3, hcell⟩ := mi_c_of hc
          exact ⟨mi_w_len _ _ _, mi_sz_set hcell rfl⟩
        exact mi_q_copy X K hzs hst hn hr hdg hf hlo (k0 hh.1 hh.2)
      · split at hr
        · rename_i hk; subst hk
          rw [if_neg (by decide), if_neg (by decide), if_pos rfl] at hst
          have hh : h' = h := by
            unfold mi_mm at hst
            repeat' split at hst
            all_goals first | (cases hst; done) | (cases hst; rfl)
          simp only [mi_has_w, Bool.and_eq_true, decide_eq_true_eq] at hr
          subst hh
          exact mi_q_mm hst hn (fun H locs ls rest x y hs hc w => va_mmax hx hb (hml.trans hs.symm) hown (hts _ (mi_tbw hr.1 hr.2)) (hts _ mi_w_xs) (hts _ mi_w_mi) (hts _ mi_w_xc) hf (by omega) (by omega) (by omega) hdg w) (k0 rfl rfl)
        · split at hr
          · rename_i hk; subst hk
            rw [if_neg (by decide), if_neg (by decide), if_neg (by decide), if_pos rfl] at hst
            have hh : h' = h := by
              unfold mi_mm at hst
              repeat' split at hst
              all_goals first | (cases hst; done) | (cases hst; rfl)
            simp only [mi_has_w, Bool.and_eq_true, decide_eq_true_eq] at hr
            subst hh
            exact mi_q_mm hst hn (fun H locs ls rest x y hs hc w => va_mmin hx hb (hml.trans hs.symm) hown (hts _ (mi_tbw hr.1 hr.2)) (hts _ mi_w_ns) (hts _ mi_w_mi) (hts _ mi_w_nc) hf (by omega) (by omega) (by omega) hdg w) (k0 rfl rfl)
          · cases hr
  case iadd =>
    simp only [mi_step] at hst
    simp only [mi_ok, Bool.and_eq_true, decide_eq_true_eq] at hok
    obtain ⟨hn, rfl, rfl⟩ := hok
    have hh : h' = h := by
      unfold mi_ii at hst
      repeat' split at hst
      all_goals first | (cases hst; done) | (cases hst; rfl)
    have k1 := k0 (by rw [hh]) (by rw [hh])
    exact mi_q_ii hst hn (fun H locs ls rest x y r hr w => by cases hr; exact lv_iadd hx hb hdg w) k1
  case isub =>
    simp only [mi_step] at hst
    simp only [mi_ok, Bool.and_eq_true, decide_eq_true_eq] at hok
    obtain ⟨hn, rfl, rfl⟩ := hok
    have hh : h' = h := by
      unfold mi_ii at hst
      repeat' split at hst
      all_goals first | (cases hst; done) | (cases hst; rfl)
    have k1 := k0 (by rw [hh]) (by rw [hh])
    exact mi_q_ii hst hn (fun H locs ls rest x y r hr w => by cases hr; exact lv_isub hx hb hdg w) k1
  case imul =>
    simp only [mi_step] at hst
    simp only [mi_ok, Bool.and_eq_true, decide_eq_true_eq] at hok
    obtain ⟨hn, rfl, rfl⟩ := hok
    have hh : h' = h := by
      unfold mi_ii at hst
      repeat' split at hst
      all_goals first | (cases hst; done) | (cases hst; rfl)
    have k1 := k0 (by rw [hh]) (by rw [hh])
    exact mi_q_ii hst hn (fun H locs ls rest x y r hr w => by cases hr; exact lv_imul hx hb hdg w) k1
  case iand =>
    simp only [mi_step] at hst
    simp only [mi_ok, Bool.and_eq_true, decide_eq_true_eq] at hok
    obtain ⟨hn, rfl, rfl⟩ := hok
    have hh : h' = h := by
      unfold mi_ii at hst
      repeat' split at hst
      all_goals first | (cases hst; done) | (cases hst; rfl)
    have k1 := k0 (by rw [hh]) (by rw [hh])
    exact mi_q_ii hst hn (fun H locs ls rest x y r hr w => by cases hr; exact lv_iand hx hb hdg w) k1
  case ior =>
    simp only [mi_step] at hst
    simp only [mi_ok, Bool.and_eq_true, decide_eq_true_eq] at hok
    obtain ⟨hn, rfl, rfl⟩ := hok
    have hh : h' = h := by
      unfold mi_ii at hst
      repeat' split at hst
      all_goals first | (cases hst; done) | (cases hst; rfl)
    have k1 := k0 (by rw [hh]) (by rw [hh])
    exact mi_q_ii hst hn (fun H locs ls rest x y r hr w => by cases hr; exact lv_ior hx hb hdg w) k1
  case ishl =>
    simp only [mi_step] at hst
    simp only [mi_ok, Bool.and_eq_true, decide_eq_true_eq] at hok
    obtain ⟨hn, rfl, rfl⟩ := hok
    have hh : h' = h := by
      unfold mi_ii at hst
      repeat' split at hst
      all_goals first | (cases hst; done) | (cases hst; rfl)
    have k1 := k0 (by rw [hh]) (by rw [hh])
    exact mi_q_ii hst hn (fun H locs ls rest x y r hr w => by cases hr; exact lv_ishl hx hb hdg w) k1
  case ishr =>
    simp only [mi_step] at hst
    simp only [mi_ok, Bool.and_eq_true, decide_eq_true_eq] at hok
    obtain ⟨hn, rfl, rfl⟩ := hok
    have hh : h' = h := by
      unfold mi_ii at hst
      repeat' split at hst
      all_goals first | (cases hst; done) | (cases hst; rfl)
    have k1 := k0 (by rw [hh]) (by rw [hh])
    exact mi_q_ii hst hn (fun H locs ls rest x y r hr w => by cases hr; exact lv_ishr hx hb hdg w) k1
  case idiv =>
    simp only [mi_step] at hst
    simp only [mi_ok, Bool.and_eq_true, decide_eq_true_eq] at hok
    obtain ⟨hn, rfl, rfl⟩ := hok
    have hh : h' = h := by
      unfold mi_ii at hst
      repeat' split at hst
      all_goals first | (cases hst; done) | (cases hst; rfl)
    have k1 := k0 (by rw [hh]) (by rw [hh])
    exact mi_q_ii hst hn (fun H locs ls rest x y r hr w => by
      split at hr
      · cases hr
      · rename_i hne; cases hr; exact lv_idiv hx hb hdg hne w) k1
  case irem =>
    simp only [mi_step] at hst
    simp only [mi_ok, Bool.and_eq_true, decide_eq_true_eq] at hok
    obtain ⟨hn, rfl, rfl⟩ := hok
    have hh : h' = h := by
      unfold mi_ii at hst
      repeat' split at hst
      all_goals first | (cases hst; done) | (cases hst; rfl)
    have k1 := k0 (by rw [hh]) (by rw [hh])
    exact mi_q_ii hst hn (fun H locs ls rest x y r hr w => by
      split at hr
      · cases hr
      · rename_i hne; cases hr; exact lv_irem hx hb hdg hne w) k1
  case lsub =>
    simp only [mi_step] at hst
    simp only [mi_ok, Bool.and_eq_true, decide_eq_true_eq] at hok
    obtain ⟨hn, rfl, rfl⟩ := hok
    have hh : h' = h := by
      unfold mi_ll at hst
      repeat' split at hst
      all_goals first | (cases hst; done) | (cases hst; rfl)
    have k1 := k0 (by rw [hh]) (by rw [hh])
    exact mi_q_ll hst hn (fun x y r hr ad => by cases hr; rfl) (fun H locs ls rest x y r hr w => by cases hr; exact lv_lsub hx hb hdg w) k1
  case lmul =>
    simp only [mi_step] at hst
    simp only [mi_ok, Bool.and_eq_true, decide_eq_true_eq] at hok
    obtain ⟨hn, rfl, rfl⟩ := hok
    have hh : h' = h := by
      unfold mi_ll at hst
      repeat' split at hst
      all_goals first | (cases hst; done) | (cases hst; rfl)
    have k1 := k0 (by rw [hh]) (by rw [hh])
    exact mi_q_ll hst hn (fun x y r hr ad => by cases hr; rfl) (fun H locs ls rest x y r hr w => by cases hr; exact lv_lmul hx hb hdg w) k1
  case lor =>
    simp only [mi_step] at hst
    simp only [mi_ok, Bool.and_eq_true, decide_eq_true_eq] at hok
    obtain ⟨hn, rfl, rfl⟩ := hok
    have hh : h' = h := by
      unfold mi_ll at hst
      repeat' split at hst
      all_goals first | (cases hst; done) | (cases hst; rfl)
    have k1 := k0 (by rw [hh]) (by rw [hh])
    exact mi_q_ll hst hn (fun x y r hr ad => by cases hr; rfl) (fun H locs ls rest x y r hr w => by cases hr; exact lv_lor hx hb hdg w) k1
  case lcmp =>
    simp only [mi_step] at hst
    simp only [mi_ok, Bool.and_eq_true, decide_eq_true_eq] at hok
    obtain ⟨hn, rfl, rfl⟩ := hok
    have hh : h' = h := by
      unfold mi_ll at hst
      repeat' split at hst
      all_goals first | (cases hst; done) | (cases hst; rfl)
    have k1 := k0 (by rw [hh]) (by rw [hh])
    exact mi_q_ll hst hn (fun x y r hr ad => by cases hr; rfl) (fun H locs ls rest x y r hr w => by cases hr; exact W.lcmp hx hb hdg w) k1
  case ldiv =>
    simp only [mi_step] at hst
    simp only [mi_ok, Bool.and_eq_true, decide_eq_true_eq] at hok
    obtain ⟨hn, rfl, rfl⟩ := hok
    have hh : h' = h := by
      unfold mi_ll at hst
      repeat' split at hst
      all_goals first | (cases hst; done) | (cases hst; rfl)
    have k1 := k0 (by rw [hh]) (by rw [hh])
    exact mi_q_ll hst hn (fun x y r hr ad => by
      split at hr
      · cases hr
      · cases hr; rfl) (fun H locs ls rest x y r hr w => by
      split at hr
      · cases hr
      · rename_i hne; cases hr; exact lv_ldiv hx hb hdg hne w) k1
  case lrem =>
    simp only [mi_step] at hst
    simp only [mi_ok, Bool.and_eq_true, decide_eq_true_eq] at hok
    obtain ⟨hn, rfl, rfl⟩ := hok
    have hh : h' = h := by
      unfold mi_ll at hst
      repeat' split at hst
      all_goals first | (cases hst; done) | (cases hst; rfl)
    have k1 := k0 (by rw [hh]) (by rw [hh])
    exact mi_q_ll hst hn (fun x y r hr ad => by
      split at hr
      · cases hr
      · cases hr; rfl) (fun H locs ls rest x y r hr w => by
      split at hr
      · cases hr
      · rename_i hne; cases hr; exact lv_lrem hx hb hdg hne w) k1
  case lshl =>
    simp only [mi_step] at hst
    simp only [mi_ok, Bool.and_eq_true, decide_eq_true_eq] at hok
    obtain ⟨hn, rfl, rfl⟩ := hok
    have hh : h' = h := by
      unfold mi_lshl at hst
      repeat' split at hst
      all_goals first | (cases hst; done) | (cases hst; rfl)
    have k1 := k0 (by rw [hh]) (by rw [hh])
    exact mi_q_lshl hx hb hst hn hdg k1
  case i2l =>
    simp only [mi_step] at hst
    simp only [mi_ok, Bool.and_eq_true, decide_eq_true_eq] at hok
    obtain ⟨hn, rfl, rfl⟩ := hok
    have hh : h' = h := by
      unfold mi_i1 at hst
      repeat' split at hst
      all_goals first | (cases hst; done) | (cases hst; rfl)
    have k1 := k0 (by rw [hh]) (by rw [hh])
    exact mi_q_i1 hst hn (fun _ _ => rfl) (fun H locs ls rest x w => lv_i2l hx hb hdg rfl w) k1
  case i2b =>
    simp only [mi_step] at hst
    simp only [mi_ok, Bool.and_eq_true, decide_eq_true_eq] at hok
    obtain ⟨hn, rfl, rfl⟩ := hok
    have hh : h' = h := by
      unfold mi_i1 at hst
      repeat' split at hst
      all_goals first | (cases hst; done) | (cases hst; rfl)
    have k1 := k0 (by rw [hh]) (by rw [hh])
    exact mi_q_i1 hst hn (fun _ _ => rfl) (fun H locs ls rest x w => lv_i2b hx hb hdg rfl w) k1
  case i2c =>
    simp only [mi_step] at hst
    simp only [mi_ok, Bool.and_eq_true, decide_eq_true_eq] at hok
    obtain ⟨hn, rfl, rfl⟩ := hok
    have hh : h' = h := by
      unfold mi_i1 at hst
      repeat' split at hst
      all_goals first | (cases hst; done) | (cases hst; rfl)
    have k1 := k0 (by rw [hh]) (by rw [hh])
    exact mi_q_i1 hst hn (fun _ _ => rfl) (fun H locs ls rest x w => lv_i2c hx hb hdg rfl w) k1
  case dup =>
    simp only [mi_step] at hst
    simp only [mi_ok, Bool.and_eq_true, decide_eq_true_eq] at hok
    obtain ⟨hn, rfl, rfl⟩ := hok
    have hh : h' = h := by
      unfold mi_dup at hst
      repeat' split at hst
      all_goals first | (cases hst; done) | (cases hst; rfl)
    have k1 := k0 (by rw [hh]) (by rw [hh])
    exact mi_q_dup hx hb hst hn hdg k1
  case dup2 =>
    simp only [mi_step] at hst
    simp only [mi_ok, Bool.and_eq_true, decide_eq_true_eq] at hok
    obtain ⟨hn, rfl, rfl⟩ := hok
    have hh : h' = h := by
      unfold mi_dup2 at hst
      repeat' split at hst
      all_goals first | (cases hst; done) | (cases hst; rfl)
    have k1 := k0 (by rw [hh]) (by rw [hh])
    exact mi_q_dup2 hx hb hst hn hdg k1
  case pop =>
    simp only [mi_step] at hst
    simp only [mi_ok, Bool.and_eq_true, decide_eq_true_eq] at hok
    obtain ⟨hn, rfl, rfl⟩ := hok
    have hh : h' = h := by
      unfold mi_pop at hst
      repeat' split at hst
      all_goals first | (cases hst; done) | (cases hst; rfl)
    have k1 := k0 (by rw [hh]) (by rw [hh])
    exact mi_q_pop hx hb hst hn hdg k1
  case pop2 =>
    simp only [mi_step] at hst
    simp only [mi_ok, Bool.and_eq_true, decide_eq_true_eq] at hok
    obtain ⟨hn, rfl, rfl⟩ := hok
    have hh : h' = h := by
      unfold mi_pop2 at hst
      repeat' split at hst
      all_goals first | (cases hst; done) | (cases hst; rfl)
    have k1 := k0 (by rw [hh]) (by rw [hh])
    exact mi_q_pop2 hx hb hst hn hdg k1
  case iaload =>
    simp only [mi_step] at hst
    simp only [mi_ok, Bool.and_eq_true, decide_eq_true_eq] at hok
    obtain ⟨hn, rfl, rfl⟩ := hok
    have hh : h' = h := by
      unfold mi_iald at hst
      repeat' split at hst
      all_goals first | (cases hst; done) | (cases hst; rfl)
    have k1 := k0 (by rw [hh]) (by rw [hh])
    exact mi_q_iald X K hst hn hdg k1
  case baload =>
    simp only [mi_step] at hst
    simp only [mi_ok, Bool.and_eq_true, decide_eq_true_eq] at hok
    obtain ⟨hn, rfl, rfl⟩ := hok
    have hh : h' = h := by
      unfold mi_bald at hst
      repeat' split at hst
      all_goals first | (cases hst; done) | (cases hst; rfl)
    have k1 := k0 (by rw [hh]) (by rw [hh])
    exact mi_q_bald X K hzs hst hn hdg k1
  case laload =>
    simp only [mi_step] at hst
    simp only [mi_ok, Bool.and_eq_true, decide_eq_true_eq] at hok
    obtain ⟨hn, rfl, rfl⟩ := hok
    have hh : h' = h := by
      unfold mi_lald at hst
      repeat' split at hst
      all_goals first | (cases hst; done) | (cases hst; rfl)
    have k1 := k0 (by rw [hh]) (by rw [hh])
    exact mi_q_lald X K hst hn hdg k1
  case aaload =>
    simp only [mi_step] at hst
    simp only [mi_ok, Bool.and_eq_true, decide_eq_true_eq] at hok
    obtain ⟨hn, rfl, rfl⟩ := hok
    have hh : h' = h := by
      unfold mi_aald at hst
      repeat' split at hst
      all_goals first | (cases hst; done) | (cases hst; rfl)
    have k1 := k0 (by rw [hh]) (by rw [hh])
    exact mi_q_aald X K hst hn hdg k1
  case arraylength =>
    simp only [mi_step] at hst
    simp only [mi_ok, Bool.and_eq_true, decide_eq_true_eq] at hok
    obtain ⟨hn, rfl, rfl⟩ := hok
    have hh : h' = h := by
      unfold mi_alen at hst
      repeat' split at hst
      all_goals first | (cases hst; done) | (cases hst; rfl)
    have k1 := k0 (by rw [hh]) (by rw [hh])
    exact mi_q_alen X K hzs hst hn hdg k1
  case iastore =>
    simp only [mi_step] at hst
    simp only [mi_ok, Bool.and_eq_true, decide_eq_true_eq] at hok
    obtain ⟨hn, rfl, rfl⟩ := hok
    have hh : h'.length = h.length ∧ mi_sz h' = mi_sz h := by
      unfold mi_iast at hst
      repeat' split at hst
      all_goals first | (cases hst; done) | skip
      all_goals (cases hst; first | (rename_i hc _; exact ⟨mi_w_len _ _ _, mi_sz_set (mi_c_of hc).2 rfl⟩) | (rename_i hc _ _; exact ⟨mi_w_len _ _ _, mi_sz_set (mi_c_of hc).2 rfl⟩) | (rename_i hc _ _ _; exact ⟨mi_w_len _ _ _, mi_sz_set (mi_c_of hc).2 rfl⟩))
    have k1 := k0 hh.1 hh.2
    exact mi_q_iast X K hzs hst hn hdg k1
  case lastore =>
    simp only [mi_step] at hst
    simp only [mi_ok, Bool.and_eq_true, decide_eq_true_eq] at hok
    obtain ⟨hn, rfl, rfl⟩ := hok
    have hh : h'.length = h.length ∧ mi_sz h' = mi_sz h := by
      unfold mi_last at hst
      repeat' split at hst
      all_goals first | (cases hst; done) | skip
      all_goals (cases hst; first | (rename_i hc _; exact ⟨mi_w_len _ _ _, mi_sz_set (mi_c_of hc).2 rfl⟩) | (rename_i hc _ _; exact ⟨mi_w_len _ _ _, mi_sz_set (mi_c_of hc).2 rfl⟩) | (rename_i hc _ _ _; exact ⟨mi_w_len _ _ _, mi_sz_set (mi_c_of hc).2 rfl⟩))
    have k1 := k0 hh.1 hh.2
    exact mi_q_last X K hzs hst hn hdg k1
  case bastore =>
    simp only [mi_step] at hst
    simp only [mi_ok, Bool.and_eq_true, decide_eq_true_eq] at hok
    obtain ⟨hn, rfl, rfl⟩ := hok
    have hh : h'.length = h.length ∧ mi_sz h' = mi_sz h := by
      unfold mi_bast at hst
      repeat' split at hst
      all_goals first | (cases hst; done) | skip
      all_goals (cases hst; first | (rename_i hc _; exact ⟨mi_w_len _ _ _, mi_sz_set (mi_c_of hc).2 rfl⟩) | (rename_i hc _ _; exact ⟨mi_w_len _ _ _, mi_sz_set (mi_c_of hc).2 rfl⟩) | (rename_i hc _ _ _; exact ⟨mi_w_len _ _ _, mi_sz_set (mi_c_of hc).2 rfl⟩))
    have k1 := k0 hh.1 hh.2
    exact mi_q_bast X K hzs hst hn hdg k1
  case aastore =>
    simp only [mi_step] at hst
    simp only [mi_ok, Bool.and_eq_true, decide_eq_true_eq] at hok
    obtain ⟨hn, rfl, rfl⟩ := hok
    have hh : h'.length = h.length ∧ mi_sz h' = mi_sz h := by
      unfold mi_aast at hst
      repeat' split at hst
      all_goals first | (cases hst; done) | skip
      all_goals (cases hst; first | (rename_i hc _; exact ⟨mi_w_len _ _ _, mi_sz_set (mi_c_of hc).2 rfl⟩) | (rename_i hc _ _; exact ⟨mi_w_len _ _ _, mi_sz_set (mi_c_of hc).2 rfl⟩) | (rename_i hc _ _ _; exact ⟨mi_w_len _ _ _, mi_sz_set (mi_c_of hc).2 rfl⟩))
    have k1 := k0 hh.1 hh.2
    exact mi_q_aast X K hzs hst hn hdg k1
  all_goals (simp only [mi_step] at hst; cases hst)
end MIO
