/-! what a run makes is small -/
theorem mi_blank_sz {t : ArrayType} {n : Nat} {c : mC} (h : mi_blank t n = some c) : mi_csz c = n := by
  cases t <;> simp only [mi_blank] at h <;> first | (cases h; rfl) | (cases h; done)
theorem mi_size_a {t : ArrayType} {f f' : mF} {h h' : mH} (hst : mi_newa t f h = some (f', h')) : mi_sz h' + 10000 * h.length ≤ mi_sz h + 10000 * h'.length := by
  unfold mi_newa at hst
  split at hst
  · rename_i n st _
    split at hst
    · rename_i hc
      split at hst
      · rename_i c hb
        cases hst
        have h1 := mi_blank_sz hb
        have h2 : n.toNatClampNeg = n.toInt.toNat := rfl
        rw [mi_sz_app, h1, h2, List.length_append, List.length_singleton]
        omega
      · cases hst
    · cases hst
  · cases hst
theorem mi_size_q {ci : Nat} {f f' : mF} {h h' : mH} (hst : mi_newq ci f h = some (f', h')) : mi_sz h' + 10000 * h.length ≤ mi_sz h + 10000 * h'.length := by
  unfold mi_newq at hst
  split at hst
  · rename_i n st _
    split at hst
    · rename_i hc
      cases hst
      have h2 : n.toNatClampNeg = n.toInt.toNat := rfl
      rw [mi_sz_app, List.length_append, List.length_singleton]
      simp only [mi_csz]
      rw [h2]
      omega
    · cases hst
  · cases hst
theorem mi_dfl_sz : mi_dfl0.all (fun fs => Nat.ble fs.length 10000) = true := by decide +kernel
theorem mi_size_n {ci : Nat} {f f' : mF} {h h' : mH} (hst : mi_new ci f h = some (f', h')) : mi_sz h' + 10000 * h.length ≤ mi_sz h + 10000 * h'.length := by
  unfold mi_new at hst
  split at hst
  · rename_i fs hf
    cases hst
    have h1 := Nat.le_of_ble_eq_true (List.all_eq_true.mp mi_dfl_sz fs (List.mem_of_getElem? hf))
    rw [mi_sz_app, List.length_append, List.length_singleton]
    simp only [mi_csz]
    omega
  · cases hst
theorem mi_size1 {S : Nat × (Nat → Int32)} {i : Instr} {f f' : mF} {h h' : mH} (hst : mi_step S i f h = some (f', h')) : mi_sz h' + 10000 * h.length ≤ mi_sz h + 10000 * h'.length := by
  cases i <;> simp only [mi_step] at hst <;> try (first | (cases hst; done) | exact mi_size_a hst | exact mi_size_q hst | exact mi_size_n hst)
  all_goals (try simp only [mi_push, mi_iload, mi_lload, mi_aload, mi_istore, mi_lstore, mi_astore, mi_iinc, mi_ii, mi_ll, mi_lshl, mi_i1, mi_if, mi_icmp, mi_goto, mi_table, mi_dup, mi_dup2, mi_pop, mi_pop2, mi_getf, mi_putf, mi_iald, mi_bald, mi_lald, mi_aald, mi_iast, mi_bast, mi_last, mi_aast, mi_alen, mi_obj, mi_copy, mi_mm, mi_txt] at hst)
  all_goals (repeat' split at hst)
  all_goals first
    | (cases hst; done)
    | (cases hst; exact Nat.le_refl _)
    | (cases hst; rw [mi_w_len]; exact Nat.add_le_add_right (Nat.le_of_eq (mi_sz_set (mi_c_of (by assumption)).2 (by simp [mi_csz]))) _)
theorem mi_sizeR {P : mP} {S : Nat × (Nat → Int32)} : ∀ (n d no : Nat) (f : mF) (h : mH) (r : Option Value) (h' : mH), mi_run P S n d no f h = some (r, h') → mi_sz h' + 10000 * h.length ≤ mi_sz h + 10000 * h'.length := by
  intro n
  induction n with
  | zero => intro d no f h r h' hr; rw [mi_run] at hr; cases hr
  | succ n ih =>
    intro d no f h r h' hr
    rcases mi_runC hr with ⟨rfl, -, -⟩ | ⟨y, d', as, rest, r1, h1, -, -, -, -, -, -, -, e1, e2⟩ | ⟨f1, h1, -, e1, -, -, -, -, -, e2⟩
    · exact Nat.le_refl _
    · have a := ih _ _ _ _ _ _ e1
      have b := ih _ _ _ _ _ _ e2
      omega
    · have a := mi_size1 e1
      have b := ih _ _ _ _ _ _ e2
      omega
/-! the tables' words at the law's entry -/
theorem mi_nest_in : mi_nest.all (fun w => lw_tbl.contains w) = true := by decide +kernel
theorem mi_K_of {s : State} {A : Array Value} {av : Nat → Nat} (hts : ∀ w ∈ lw_tbl, w.before A s = true) (hav : ∀ k q, mi_strs[k]? = some q → vk_R q.1 q.2.1 q.2.2 (av (k + 1)) s) : ∃ (cA dC : Nat → ClassId) (dI : Nat → Nat → Nat), mi_K av cA dC dI s := by
  have htb : ∀ w ∈ mi_tb, w.before A s = true := fun w hw => hts w (List.mem_filter.mp hw).1
  have hcl : ∀ k : Nat, ∃ (cC : ClassId), ∃ (iS : Nat → Nat), ∀ q : vw_C, mcl[k]? = some q → u_Kn s q.1 q.2.1 q.2.2 cC iS := by
    intro k
    cases hq : mcl[k]? with
    | none => exact ⟨(0 : Nat), fun _ => 0, fun q h => by cases h⟩
    | some q =>
      obtain ⟨C, T, N⟩ := q
      obtain ⟨cC, iS, h⟩ := u_known (C := C) (T := T) (N := N) (n := N) htb (mi_lays k C T N hq) (htb _ (mi_ins hq).1)
      exact ⟨cC, iS, fun q' h' => by cases h'; exact h⟩
  have a : ∀ {ty : FieldType}, Cond.arrayClass ty ∈ lw_tbl → ∃ cA : ClassId, ArrOfT s cA ty ∧ s.vm.findClass ("[" ++ ty.toString) = some cA := by
    intro ty hw
    obtain ⟨c, k, comp, h1, h2, h3⟩ := Cond.arrayClass_spec (hts _ hw)
    exact ⟨c, fun n z => ⟨fun k h => (by cases h), k, h2, comp, h3⟩, h1⟩
  obtain ⟨c0, i0, j0⟩ := a (ty := .int) (List.mem_of_getElem? (i := 185) (by decide +kernel))
  obtain ⟨c1, i1, j1⟩ := a (ty := .byte) (List.mem_of_getElem? (i := 184) (by decide +kernel))
  obtain ⟨c2, i2, j2⟩ := a (ty := .boolean) (List.mem_of_getElem? (i := 476) (by decide +kernel))
  obtain ⟨c3, i3, j3⟩ := a (ty := .long) (List.mem_of_getElem? (i := 1617) (by decide +kernel))
  have hao := hts (.arrayOver (.object "AviaryLock$Now")) (List.mem_of_getElem? (i := 350) (by decide +kernel))
  obtain ⟨comp, c4, k4, g1, g2, g3, g4, g5⟩ := Cond.arrayOver_spec hao
  obtain ⟨dC, hd⟩ := Classical.axiomOfChoice hcl
  obtain ⟨dI, hd⟩ := Classical.axiomOfChoice hd
  refine ⟨fun k => if k = 0 then c0 else if k = 1 then c1 else if k = 2 then c2 else if k = 3 then c3 else c4, dC, dI, ⟨fun c q hq => hd c q hq, fun k q hk => ?_⟩, fun w hw => ?_, va_AO.of hao, hav⟩
  · match k, hk with
    | 0, hk => cases hk; exact ⟨i0, j0⟩
    | 1, hk => cases hk; exact ⟨i1, j1⟩
    | 2, hk => cases hk; exact ⟨i2, j2⟩
    | 3, hk => cases hk; exact ⟨i3, j3⟩
    | 4, hk => cases hk; exact ⟨fun n z => ⟨fun k h => (by cases h), k4, g3, comp, g4⟩, k4, comp, g3, g4, g1, g5⟩
    | k + 5, hk => simp [mi_tys] at hk
  · have h1 := List.all_eq_true.mp mi_nest_ok w hw
    have h2 := List.all_eq_true.mp mi_nest_in w hw
    have h3 := hts w (List.contains_iff_mem.mp h2)
    cases w <;> first | exact va_Nw.of rfl h3 | (simp at h1)
