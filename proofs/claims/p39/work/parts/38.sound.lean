/-! branches, forks, reading and writing of cells -/
theorem zcd_iff {cd : Jvm.ClassFile.Cond} {x y : Int32} : mi_cond cd x y = true ↔ zcd cd (x.toInt - y.toInt) := by
  have he : x = y ↔ x.toInt = y.toInt := Int32.toInt_inj.symm
  cases cd <;> simp only [mi_cond, zcd, decide_eq_true_eq, Int32.lt_iff_toInt_lt, Int32.le_iff_toInt_le, he, ne_eq] <;> omega
theorem zcd_neg {cd : Jvm.ClassFile.Cond} {x : Int} : ¬ zcd cd x → zcd (eneg cd) x := by
  intro h
  cases cd <;> simp only [zcd, eneg, ne_eq, Decidable.not_not] at h ⊢ <;> omega
theorem zfork_ok {en : zN} {e : zL} {q : List (Int × zN)} {r : List Int} {X : Int} (hE : zEn en r) (hX : zE r e X) (h : zfork en e = some q) : ∃ p ∈ q, p.1 = X ∧ zEn p.2 r := by
  unfold zfork at h
  split at h
  · rename_i lo hi h1 h2
    rw [cond_eq_ite] at h
    split at h
    · cases h
      have q1 := zub_le hE.1 h1 (zE_neg hX)
      have q2 := zub_le hE.1 h2 hX
      have e1 : Int.add hi lo = hi + lo := rfl
      have hz : zE r (zac e (Int.sub lo (Int.ofNat (X + lo).toNat))) 0 := by
        have := zE_ac (c := Int.sub lo (Int.ofNat (X + lo).toNat)) hX
        have e2 : X + Int.sub lo (Int.ofNat (X + lo).toNat) = 0 := by
          show X + (lo - ((X + lo).toNat : Int)) = 0
          omega
        rw [e2] at this
        exact this
      obtain ⟨en', hm, hE'⟩ := zbr_ok (nf := false) (cd := .eq) hE hz rfl
      refine ⟨(Int.add (Int.neg lo) (Int.ofNat (X + lo).toNat), en'), ?_, ?_, hE'⟩
      · rw [List.mem_flatMap]
        refine ⟨(X + lo).toNat, ?_, List.mem_map.mpr ⟨en', hm, rfl⟩⟩
        rw [List.mem_range, e1]
        omega
      · show -lo + ((X + lo).toNat : Int) = X
        omega
    · cases h
  · cases h
section ZI
variable {P : mP} {S : Nat × (Nat → Int32)} {D : Nat} {W : zW} {J : mH → Prop} {r0 : List Int} {Q : Option Value → mH → Prop} {Ls : Bool} {nf fk : List (Nat × Nat)} {m pc : Nat} {l : List (Nat × zV)} {st : List zV} {fr : List zF} {t : zT} {en : zN} {ss : List zS}
/-- one of several roads: the cells as they were -/
theorem zHy_3 (hyp : ∀ r l0 st0 h, zLo r l l0 → zSt r st st0 → zEn en r → ∃ pc' l1 st1 l' st' en' s, mi_step S (mi_at P m pc) (pc, l0, st0) h = some ((pc', l1, st1), h) ∧ (((m, pc', l', st') :: fr, t, en') : zS) ∈ ss ∧ zEn en' (r ++ s) ∧ zLo (r ++ s) l' l1 ∧ zSt (r ++ s) st' st1) : zHy P S J r0 m pc l st fr t en ss := by
  intro r1 l0 st0 h hl hst hH hE hs
  obtain ⟨pc', l1, st1, l', st', en', s, e, hm, g1, g2, g3⟩ := hyp _ l0 st0 h hl hst hE
  exact ⟨(pc', l1, st1), h, e, l', st', t, en', s, hm, g2, g3, zHp_mono s hH, g1, hs⟩
theorem zo_iload {i : Nat} (hi : mi_at P m pc = .iload i) (h : zx_iload fk m pc l st fr t en i = some ss) : zHy P S J r0 m pc l st fr t en ss := by
  unfold zx_iload at h
  split at h
  · rename_i e hl
    rw [cond_eq_ite] at h
    split at h
    · split at h
      · rename_i q hq
        cases h
        refine zHy_3 (fun r l0 st0 h hl0 hst hE => ?_)
        obtain ⟨x, g1, j, rfl, g2⟩ := zLo_get hl0 hl
        obtain ⟨p, hp, e1, hE'⟩ := zfork_ok hE g2 hq
        refine ⟨pc + 1, l0, .int j :: st0, l, .inl (zK p.1) :: st, p.2, [], by rw [hi]; simp only [mi_step, mi_iload, g1], List.mem_map.mpr ⟨p, hp, rfl⟩, ?_, ?_, ?_⟩
        · rw [List.append_nil]; exact hE'
        · rw [List.append_nil]; exact hl0
        · rw [List.append_nil]; exact zSt_k (zR_mkI (by rw [e1]; exact zE_K)) hst
      · cases h
    · cases h
      refine zHy_1 (fun r l0 st0 h hl0 hst hE => ?_)
      obtain ⟨x, g1, j, rfl, g2⟩ := zLo_get hl0 hl
      exact ⟨l0, .int j :: st0, by rw [hi]; simp only [mi_step, mi_iload, g1], hl0, zSt_k (zR_mkI (znrm_ok hE.1 g2)) hst⟩
  · cases h
theorem zo_and (hi : mi_at P m pc = .iand) (h : zx_and m pc l st fr t en = some ss) : zHy P S J r0 m pc l st fr t en ss := by
  unfold zx_and at h
  split at h
  · rename_i b a st'
    rw [cond_eq_ite] at h
    split at h
    · rename_i hc
      rw [Bool.and_eq_true] at hc
      have hb := zeqL_eq hc.1
      subst hb
      cases h
      refine zHy_3 (fun r l0 st0 h hl0 hst hE => ?_)
      obtain ⟨x, st1, rfl, g1, g2⟩ := zSt_c hst
      obtain ⟨y, rfl, g3⟩ := zR_int g1
      obtain ⟨x', st2, rfl, g4, g5⟩ := zSt_c g2
      obtain ⟨x, rfl, g6⟩ := zR_int g4
      have hy : y.toInt = 255 := zE_fun g3 zE_K
      have hx := zin_ok hE hc.2 g6
      have hs : mi_step S (mi_at P m pc) (pc, l0, Value.int y :: Value.int x :: st2) h = some ((pc + 1, l0, .int (x &&& y) :: st2), h) := by rw [hi]; rfl
      have hm := zand255 (x := x) hy
      rcases (by omega : 0 ≤ x.toInt ∨ x.toInt < 0) with hp | hn
      · obtain ⟨en', e1, hE'⟩ := zasm_ok hE (zE_neg g6) (by omega)
        refine ⟨pc + 1, l0, _, l, .inl a :: st', en', [], hs, List.mem_append_left _ (List.mem_map.mpr ⟨en', by rw [e1]; simp, rfl⟩), ?_, ?_, ?_⟩
        · rw [List.append_nil]; exact hE'
        · rw [List.append_nil]; exact hl0
        · rw [List.append_nil]; exact zSt_k (zR_mkI (by rw [hm, show x.toInt % 256 = x.toInt by omega]; exact g6)) g5
      · obtain ⟨en', e1, hE'⟩ := zasm_ok hE (zE_ac (c := 1) g6) (by omega)
        refine ⟨pc + 1, l0, _, l, .inl (zac a 256) :: st', en', [], hs, List.mem_append_right _ (List.mem_map.mpr ⟨en', by rw [e1]; simp, rfl⟩), ?_, ?_, ?_⟩
        · rw [List.append_nil]; exact hE'
        · rw [List.append_nil]; exact hl0
        · rw [List.append_nil]; exact zSt_k (zR_mkI (by rw [hm, show x.toInt % 256 = x.toInt + 256 by omega]; exact zE_ac g6)) g5
    · exact zo_bin hi h
  · cases h
theorem zo_lcmp (hi : mi_at P m pc = .lcmp) (h : zx_lcmp m pc l st fr t en = some ss) : zHy P S J r0 m pc l st fr t en ss := by
  unfold zx_lcmp at h
  split at h
  · rename_i b a st'
    cases h
    refine zHy_3 (fun r l0 st0 h hl0 hst hE => ?_)
    obtain ⟨x, st1, rfl, g1, g2⟩ := zSt_c hst
    obtain ⟨y, rfl, g3⟩ := zR_lng g1
    obtain ⟨x', st2, rfl, g4, g5⟩ := zSt_c g2
    obtain ⟨x, rfl, g6⟩ := zR_lng g4
    have hs : mi_step S (mi_at P m pc) (pc, l0, Value.long y :: Value.long x :: st2) h = some ((pc + 1, l0, .int (lg_cmp x y) :: st2), h) := by rw [hi]; rfl
    have hd := zE_sub g6 g3
    have hgt : x > y ↔ y.toInt < x.toInt := Int64.lt_iff_toInt_lt
    have heq : x = y ↔ x.toInt = y.toInt := Int64.toInt_inj.symm
    rcases (by omega : x.toInt - y.toInt < 0 ∨ x.toInt - y.toInt = 0 ∨ 0 < x.toInt - y.toInt) with c | c | c
    · obtain ⟨en', e1, hE'⟩ := zbr_ok (nf := false) (cd := .lt) hE hd c
      have hz : lg_cmp x y = -1 := by unfold lg_cmp; rw [if_neg (by rw [hgt]; omega), if_neg (by rw [heq]; omega)]
      refine ⟨pc + 1, l0, _, l, .inl (zK (-1)) :: st', en', [], hs, List.mem_append_left _ (List.mem_map.mpr ⟨en', e1, rfl⟩), ?_, ?_, ?_⟩
      · rw [List.append_nil]; exact hE'
      · rw [List.append_nil]; exact hl0
      · rw [List.append_nil, hz]; exact zSt_k (zR_mkI zE_K) g5
    · obtain ⟨en', e1, hE'⟩ := zbr_ok (nf := false) (cd := .eq) hE hd c
      have hz : lg_cmp x y = 0 := by unfold lg_cmp; rw [if_neg (by rw [hgt]; omega), if_pos (by rw [heq]; omega)]
      refine ⟨pc + 1, l0, _, l, .inl (zK 0) :: st', en', [], hs, List.mem_append_right _ (List.mem_append_left _ (List.mem_map.mpr ⟨en', e1, rfl⟩)), ?_, ?_, ?_⟩
      · rw [List.append_nil]; exact hE'
      · rw [List.append_nil]; exact hl0
      · rw [List.append_nil, hz]; exact zSt_k (zR_mkI zE_K) g5
    · obtain ⟨en', e1, hE'⟩ := zbr_ok (nf := false) (cd := .gt) hE hd c
      have hz : lg_cmp x y = 1 := by unfold lg_cmp; rw [if_pos (by rw [hgt]; omega)]
      refine ⟨pc + 1, l0, _, l, .inl (zK 1) :: st', en', [], hs, List.mem_append_right _ (List.mem_append_right _ (List.mem_map.mpr ⟨en', e1, rfl⟩)), ?_, ?_, ?_⟩
      · rw [List.append_nil]; exact hE'
      · rw [List.append_nil]; exact hl0
      · rw [List.append_nil, hz]; exact zSt_k (zR_mkI zE_K) g5
  · cases h
/-- a branch by x compared with y -/
theorem zo_br {cd : Jvm.ClassFile.Cond} {tg : Int} {d : zL} {st' : List zV} (hyp : ∀ r l0 st0 h, zSt r st st0 → ∃ (x y : Int32) (st1 : List Value), mi_step S (mi_at P m pc) (pc, l0, st0) h = some ((if mi_cond cd x y = true then tg.toNat else pc + 1, l0, st1), h) ∧ zE r d (x.toInt - y.toInt) ∧ zSt r st' st1) (h : zx_br nf m pc l fr t en cd tg d st' = some ss) : zHy P S J r0 m pc l st fr t en ss := by
  unfold zx_br at h
  cases h
  refine zHy_3 (fun r l0 st0 h hl0 hst hE => ?_)
  obtain ⟨x, y, st1, e, hd, g⟩ := hyp r l0 st0 h hst
  have hd := znrm_ok hE.1 hd
  by_cases hc : mi_cond cd x y = true
  · obtain ⟨en', e1, hE'⟩ := zbr_ok (nf := zmem nf m pc) hE hd (zcd_iff.mp hc)
    rw [if_pos hc] at e
    exact ⟨_, l0, st1, l, st', en', [], e, List.mem_append_left _ (List.mem_map.mpr ⟨en', e1, rfl⟩), by rw [List.append_nil]; exact hE', by rw [List.append_nil]; exact hl0, by rw [List.append_nil]; exact g⟩
  · obtain ⟨en', e1, hE'⟩ := zbr_ok (nf := zmem nf m pc) hE hd (zcd_neg (fun q => hc (zcd_iff.mpr q)))
    rw [if_neg hc] at e
    exact ⟨_, l0, st1, l, st', en', [], e, List.mem_append_right _ (List.mem_map.mpr ⟨en', e1, rfl⟩), by rw [List.append_nil]; exact hE', by rw [List.append_nil]; exact hl0, by rw [List.append_nil]; exact g⟩
theorem zo_if {cd : Jvm.ClassFile.Cond} {tg : Int} (hi : mi_at P m pc = .ifCond cd tg) (h : zx_if nf m pc l st fr t en cd tg = some ss) : zHy P S J r0 m pc l st fr t en ss := by
  unfold zx_if at h
  split at h
  · refine zo_br (fun r l0 st0 h hst => ?_) h
    obtain ⟨x, st1, rfl, g1, g2⟩ := zSt_c hst
    obtain ⟨y, rfl, g3⟩ := zR_int g1
    exact ⟨y, 0, st1, by rw [hi]; rfl, by rw [show y.toInt - (0 : Int32).toInt = y.toInt from Int.sub_zero _]; exact g3, g2⟩
  · cases h
theorem zo_icmp {cd : Jvm.ClassFile.Cond} {tg : Int} (hi : mi_at P m pc = .if_icmp cd tg) (h : zx_icmp nf m pc l st fr t en cd tg = some ss) : zHy P S J r0 m pc l st fr t en ss := by
  unfold zx_icmp at h
  split at h
  · refine zo_br (fun r l0 st0 h hst => ?_) h
    obtain ⟨x, st1, rfl, g1, g2⟩ := zSt_c hst
    obtain ⟨y, rfl, g3⟩ := zR_int g1
    obtain ⟨x', st2, rfl, g4, g5⟩ := zSt_c g2
    obtain ⟨x, rfl, g6⟩ := zR_int g4
    exact ⟨x, y, st2, by rw [hi]; rfl, zE_sub g6 g3, g5⟩
  · cases h
theorem zo_goto {tg : Int} (hi : mi_at P m pc = .goto tg) : zHy P S J r0 m pc l st fr t en [((m, tg.toNat, l, st) :: fr, t, en)] :=
  zHy_1 (fun r l0 st0 h hl0 hst hE => ⟨l0, st0, by rw [hi]; rfl, hl0, hst⟩)
theorem zo_table {d lo hi' : Int} {offs : Array Int} (hi : mi_at P m pc = .tableswitch d lo hi' offs) (h : zx_table m l st fr t en d lo hi' offs = some ss) : zHy P S J r0 m pc l st fr t en ss := by
  unfold zx_table at h
  split at h
  · rename_i a st'
    split at h
    · rename_i c hc
      rw [cond_eq_ite] at h
      have e1 : Int.add c 1 = c + 1 := rfl
      have e2 : Int.add hi' 1 = hi' + 1 := rfl
      have e3 : Int.sub c lo = c - lo := rfl
      split at h
      · rename_i hq
        cases h
        refine zHy_1 (fun r l0 st0 h hl0 hst hE => ?_)
        obtain ⟨x, st1, rfl, g1, g2⟩ := zSt_c hst
        obtain ⟨y, rfl, g3⟩ := zR_int g1
        have hy := zcst_ok hc (znrm_ok hE.1 g3)
        rw [Bool.or_eq_true, zle_iff, zle_iff, e1, e2] at hq
        exact ⟨l0, st1, by rw [hi]; simp only [mi_step, mi_table]; rw [if_pos (by rw [hy]; omega)], hl0, g2⟩
      · rename_i hq
        split at h
        · rename_i tg htg
          cases h
          refine zHy_1 (fun r l0 st0 h hl0 hst hE => ?_)
          obtain ⟨x, st1, rfl, g1, g2⟩ := zSt_c hst
          obtain ⟨y, rfl, g3⟩ := zR_int g1
          have hy := zcst_ok hc (znrm_ok hE.1 g3)
          rw [Bool.or_eq_true, zle_iff, zle_iff, e1, e2] at hq
          rw [e3] at htg
          exact ⟨l0, st1, by rw [hi]; simp only [mi_step, mi_table]; rw [if_neg (by rw [hy]; omega), hy, htg], hl0, g2⟩
        · cases h
    · rw [cond_eq_ite] at h
      split at h
      · rename_i hq
        rw [Bool.and_eq_true, zle_iff] at hq
        have hsz := Nat.eq_of_beq_eq_true hq.1
        have e1 : Int.add (Int.sub hi' lo) 1 = hi' - lo + 1 := rfl
        rw [e1] at hsz
        have hq := hq.2
        cases h
        refine zHy_3 (fun r l0 st0 h hl0 hst hE => ?_)
        obtain ⟨x, st1, rfl, g1, g2⟩ := zSt_c hst
        obtain ⟨y, rfl, g3⟩ := zR_int g1
        have el : Int.neg lo = -lo := rfl
        have eh : Int.neg hi' = -hi' := rfl
        rcases (by omega : y.toInt < lo ∨ hi' < y.toInt ∨ (lo ≤ y.toInt ∧ y.toInt ≤ hi')) with c | c | c
        · obtain ⟨en', f1, hE'⟩ := zbr_ok (nf := false) (cd := .lt) hE (zE_ac (c := Int.neg lo) g3) (by rw [el]; simp only [zcd]; omega)
          exact ⟨d.toNat, l0, st1, l, st', en', [], by rw [hi]; simp only [mi_step, mi_table]; rw [if_pos (Or.inl c)], List.mem_append_left _ (List.mem_map.mpr ⟨en', f1, rfl⟩), by rw [List.append_nil]; exact hE', by rw [List.append_nil]; exact hl0, by rw [List.append_nil]; exact g2⟩
        · obtain ⟨en', f1, hE'⟩ := zbr_ok (nf := false) (cd := .gt) hE (zE_ac (c := Int.neg hi') g3) (by rw [eh]; simp only [zcd]; omega)
          exact ⟨d.toNat, l0, st1, l, st', en', [], by rw [hi]; simp only [mi_step, mi_table]; rw [if_pos (Or.inr c)], List.mem_append_right _ (List.mem_append_left _ (List.mem_map.mpr ⟨en', f1, rfl⟩)), by rw [List.append_nil]; exact hE', by rw [List.append_nil]; exact hl0, by rw [List.append_nil]; exact g2⟩
        · have hj : (y.toInt - lo).toNat < offs.size := by omega
          have ej : Int.neg (Int.add lo ((y.toInt - lo).toNat : Int)) = - (lo + ((y.toInt - lo).toNat : Int)) := rfl
          obtain ⟨en', f1, hE'⟩ := zbr_ok (nf := false) (cd := .eq) hE (zE_ac (c := Int.neg (Int.add lo ((y.toInt - lo).toNat : Int))) g3) (by rw [ej]; simp only [zcd]; omega)
          have ho : offs[(y.toInt - lo).toNat]? = some offs[(y.toInt - lo).toNat] := Array.getElem?_eq_getElem hj
          refine ⟨(offs[(y.toInt - lo).toNat]).toNat, l0, st1, l, st', en', [], by rw [hi]; simp only [mi_step, mi_table]; rw [if_neg (by omega), ho], List.mem_append_right _ (List.mem_append_right _ ?_), by rw [List.append_nil]; exact hE', by rw [List.append_nil]; exact hl0, by rw [List.append_nil]; exact g2⟩
          rw [List.mem_flatMap]
          refine ⟨(y.toInt - lo).toNat, List.mem_range.mpr hj, ?_⟩
          rw [ho]
          exact List.mem_map.mpr ⟨en', f1, rfl⟩
      · cases h
  · cases h
end ZI
