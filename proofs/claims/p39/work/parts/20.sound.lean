/-! the executor is sound -/
section EZ
variable {P : mP} {S : Nat × (Nat → Int32)} {D m pc : Nat} {l : List (Nat × eV)} {st : List eV} {fr : List eF} {n : Nat} {t : eTr} {en : eEn} {ss : List eS}
/-- an operation on two ints -/
theorem eG_bin {o : eV → eV → Option eV} {g : Int32 → Int32 → Option Int32} (hg : ∀ s' ∈ ss, eG P S D s') (hm : ∀ f h, mi_step S (mi_at P m pc) f h = mi_ii g f h) (ho : ∀ v w r x y, o v w = some r → eR S.2 v x → eR S.2 w y → ∃ a b c : Int32, x = .int a ∧ y = .int b ∧ g a b = some c ∧ eR S.2 r (.int c))
    (hs : (match st with | w :: v :: st' => (o v w).map (fun r => ([((m, pc + 1, l, r :: st') :: fr, n, t, en)] : List eS)) | _ => none) = some ss) : eG P S D ((m, pc, l, st) :: fr, n, t, en) := by
  split at hs
  · rename_i w v st'
    cases hr : o v w with
    | none => rw [hr] at hs; cases hs
    | some r =>
      rw [hr] at hs
      cases hs
      refine eG_1 hg fun l0 st0 h hl hst hH hE => ?_
      obtain ⟨y, s1, rfl, hy, x, s2, rfl, hx, hst⟩ := hst
      obtain ⟨a, b, c, rfl, rfl, e1, e2⟩ := ho v w r x y hr hx hy
      exact ⟨l0, .int c :: s2, by rw [hm]; simp only [mi_ii, e1], hl, _, _, rfl, e2, hst⟩
  · cases hs
theorem eG_cmp {cd : Jvm.ClassFile.Cond} {tg : Int} {bs : List (Bool × eEn)} {v w : eV} {st' : List eV} (hg : ∀ s' ∈ ss, eG P S D s') (hb : ebr cd v w en = some bs) (hss : bs.map (fun b => (((m, bif b.1 then tg.toNat else pc + 1, l, st') :: fr, n, t, b.2) : eS)) = ss)
    (hyp : ∀ l0 st0 h, eLo S.2 l l0 → eSt S.2 st st0 → ∃ x y s2, eR S.2 v x ∧ eR S.2 w y ∧ eSt S.2 st' s2 ∧ ∀ a b : Int32, x = .int a → y = .int b → mi_step S (mi_at P m pc) (pc, l0, st0) h = some ((if mi_cond cd a b = true then tg.toNat else pc + 1, l0, s2), h)) : eG P S D ((m, pc, l, st) :: fr, n, t, en) := by
  refine eG_of hg fun l0 st0 h hl hst hH hE => ?_
  obtain ⟨x, y, s2, hx, hy, h2, hm⟩ := hyp l0 st0 h hl hst
  obtain ⟨a, b, hxa, hyb, q, hq, e1, e2⟩ := ebr_ok hE hb hx hy
  refine ⟨_, h, l, st', n, t, q.2, hm a b hxa hyb, ?_, hl, h2, hH, e2⟩
  rw [← hss]
  refine List.mem_map.mpr ⟨q, hq, ?_⟩
  rw [e1, cond_eq_ite]
theorem eK_b0 (xs : Nat → Int32) (k : Nat) : eK xs (0, k, some (.inl 2147483648), []) (.inl (0, k, .inl (fun _ => 0))) := Or.inr ⟨rfl, by decide, rfl, fun j w hw => by cases hw; exact ⟨0, rfl, eb_zero⟩⟩
theorem eK_b1 (xs : Nat → Int32) (k : Nat) : eK xs (1, k, some (.inl 2147483648), []) (.inl (1, k, .inl (fun _ => 0))) := Or.inr ⟨rfl, by decide, rfl, fun j w hw => by cases hw; exact ⟨0, rfl, eb_zero⟩⟩
theorem eK_b2 (xs : Nat → Int32) (k : Nat) : eK xs (2, k, some (.inl 2147483648), []) (.inl (2, k, .inl (fun _ => 0))) := Or.inr ⟨rfl, by decide, rfl, fun j w hw => by cases hw; exact ⟨0, rfl, eb_zero⟩⟩
theorem eK_b3 (xs : Nat → Int32) (k : Nat) : eK xs (3, k, some (.inr (.inr (.inr (.inl 0)))), []) (.inl (3, k, .inr (.inl (fun _ => 0)))) := Or.inr ⟨rfl, rfl, rfl, fun j w hw => by cases hw; rfl⟩
theorem eK_b4 (xs : Nat → Int32) (k : Nat) : eK xs (4, k, none, []) (.inl (4, k, .inr (.inr (fun _ => none)))) := Or.inr ⟨rfl, rfl, rfl, fun j w hw => by cases hw⟩
theorem mi_bl0 (k : Nat) : mi_blank .int k = some (.inl (0, k, .inl (fun _ => 0))) := rfl
theorem mi_bl1 (k : Nat) : mi_blank .byte k = some (.inl (1, k, .inl (fun _ => 0))) := rfl
theorem mi_bl2 (k : Nat) : mi_blank .boolean k = some (.inl (2, k, .inl (fun _ => 0))) := rfl
theorem mi_bl3 (k : Nat) : mi_blank .long k = some (.inl (3, k, .inr (.inl (fun _ => 0)))) := rfl
theorem edf_find (xs : Nat → Int32) : ∀ (fs : List Value) (k j : Nat) (w : eV), (∀ v ∈ fs, v = .int 0 ∨ v = .long 0 ∨ v = .null) → efind (edf k fs) j = some w → ∃ x, k ≤ j ∧ fs[j - k]? = some x ∧ eR xs w x
  | [], k, j, w, _, h => by cases h
  | v :: t, k, j, w, hv, h => by
    have ht : ∀ v ∈ t, v = .int 0 ∨ v = .long 0 ∨ v = .null := fun v h => hv v (List.mem_cons_of_mem _ h)
    have tl : efind (edf (k + 1) t) j = some w → ∃ x, k ≤ j ∧ (v :: t)[j - k]? = some x ∧ eR xs w x := fun h => by
      obtain ⟨x, h1, h2, h3⟩ := edf_find xs t (k + 1) j w ht h
      exact ⟨x, by omega, by rw [show j - k = (j - (k + 1)) + 1 by omega, List.getElem?_cons_succ]; exact h2, h3⟩
    rcases hv v List.mem_cons_self with rfl | rfl | rfl
    · simp only [edf, efind, cond_eq_ite] at h
      split at h
      · rename_i hq
        have hq := Nat.eq_of_beq_eq_true hq
        subst hq
        cases h
        exact ⟨.int 0, Nat.le_refl _, by simp, ⟨0, rfl, eb_zero⟩⟩
      · exact tl h
    · simp only [edf, efind, cond_eq_ite] at h
      split at h
      · rename_i hq
        have hq := Nat.eq_of_beq_eq_true hq
        subst hq
        cases h
        exact ⟨.long 0, Nat.le_refl _, by simp, rfl⟩
      · exact tl h
    · exact tl h
theorem edfl_all : mi_dfl0.all (fun fs => fs.all (fun v => decide (v = .int 0 ∨ v = .long 0 ∨ v = .null))) = true := by decide +kernel
theorem edf_ok {xs : Nat → Int32} {ci : Nat} {fs : List Value} {j : Nat} {w : eV} {k len : Nat} (hfs : mi_dfl0[ci]? = some fs) (h : elk (k, len, none, edf 0 fs) j = some w) : ∃ x, fs[j]? = some x ∧ eR xs w x := by
  have h0 := List.all_eq_true.mp edfl_all fs (List.mem_of_getElem? hfs)
  have hall : ∀ v ∈ fs, v = .int 0 ∨ v = .long 0 ∨ v = .null := fun v hv => of_decide_eq_true (List.all_eq_true.mp h0 v hv)
  unfold elk at h
  split at h
  · rename_i v hv
    cases h
    obtain ⟨x, -, h2, h3⟩ := edf_find xs fs 0 j w hall hv
    exact ⟨x, by simpa using h2, h3⟩
  · cases h
theorem eretz_ok {xs : Nat → Int32} {z : Nat} {v : eV} {x : Value} (hc : eretz z v = true) (hx : eR xs v x) : ∃ y : Int32, x = .int y ∧ mi_retz z y = true := by
  unfold eretz at hc
  rw [cond_eq_ite] at hc
  split at hc
  · rename_i hz
    have hz := Nat.eq_of_beq_eq_true hz
    subst hz
    obtain ⟨y, rfl⟩ := eR_int hc hx
    exact ⟨y, rfl, rfl⟩
  · rw [cond_eq_ite] at hc
    split at hc
    · rename_i hz
      have hz := Nat.eq_of_beq_eq_true hz
      subst hz
      have h4 := efit_ok (ty := .boolean) hc hx
      cases x with
      | int y => exact ⟨y, rfl, h4⟩
      | _ => cases h4
    · cases hc
theorem ecopy_find {f g : eC} {sp dp : Nat} : ∀ (x : Nat) (es : List (Nat × eV)) (j : Nat), ecopy f g sp dp x = some es → efind es j = if dp ≤ j ∧ j < dp + x then elk f (sp + (j - dp)) else efind g.2.2.2 j
  | 0, es, j, h => by
    simp only [ecopy, Option.some.injEq] at h
    subst h
    rw [if_neg (by omega)]
    congr 1
    simp
  | x + 1, es, j, h => by
    simp only [ecopy] at h
    split at h
    · rename_i v l' hv hl
      cases h
      rw [efind_eput, ecopy_find x l' j hl]
      by_cases hj : dp + x = j
      · subst hj
        rw [if_pos rfl, if_pos (by omega), show dp + x - dp = x by omega, hv]
      · rw [if_neg hj]
        by_cases hq : dp ≤ j ∧ j < dp + x
        · rw [if_pos hq, if_pos (by omega)]
        · rw [if_neg hq, if_neg (by omega)]
    · cases h
theorem ecopy_some {f g : eC} {sp dp : Nat} : ∀ (x : Nat) (es : List (Nat × eV)) (j : Nat), ecopy f g sp dp x = some es → j < x → ∃ v, elk f (sp + j) = some v
  | 0, es, j, h, hj => by omega
  | x + 1, es, j, h, hj => by
    simp only [ecopy] at h
    split at h
    · rename_i v l' hv hl
      by_cases hq : j = x
      · subst hq; exact ⟨v, hv⟩
      · exact ecopy_some x l' j hl (by omega)
    · cases h
theorem ecopy_ok {xs : Nat → Int32} {f g : eC} {f0 f1 : Nat → Int32} {sp dp x : Nat} {es : List (Nat × eV)} (h3 : g.1 < 3) (hf : ∀ j v, elk f j = some v → eR xs v (.int (f0 j))) (hg : ∀ j v, elk g j = some v → eR xs v (.int (f1 j))) (h : ecopy f g sp dp x = some es) : eK xs (g.1, g.2.1, g.2.2.1, es) (.inl (g.1, g.2.1, .inl (va_cpy f0 f1 sp dp x))) := by
  refine Or.inr ⟨rfl, h3, rfl, fun j v hv => ?_⟩
  unfold va_cpy
  by_cases hq : dp ≤ j ∧ j < dp + x
  · rw [if_pos hq]
    obtain ⟨w, hw⟩ := ecopy_some x es (j - dp) h (by omega)
    unfold elk at hv
    simp only [ecopy_find x es j h, if_pos hq, hw] at hv
    cases hv
    exact hf _ _ hw
  · rw [if_neg hq]
    refine hg j v ?_
    unfold elk at hv ⊢
    simp only [ecopy_find x es j h, if_neg hq] at hv
    exact hv
set_option maxHeartbeats 4000000 in
theorem esound {s : eS} (hs : estep P S.1 D s = some ss) (hg : ∀ s' ∈ ss, eG P S D s') : eG P S D s := by
  unfold estep at hs
  split at hs
  · cases hs
  · rename_i m pc l st fr n t en
    split at hs
    case h_1 c hi =>
      unfold ex_iconst at hs
      cases hs
      exact eG_1 hg fun l0 st0 h hl hst hH hE => ⟨l0, .int (Int32.ofInt c) :: st0, by rw [hi]; rfl, hl, _, _, rfl, ⟨_, rfl, eb_ofInt c⟩, hst⟩
    case h_2 c hi =>
      unfold ex_ldc2_w at hs
      cases hs
      exact eG_1 hg fun l0 st0 h hl hst hH hE => ⟨l0, .long (Int64.ofNat c) :: st0, by rw [hi]; rfl, hl, _, _, rfl, rfl, hst⟩
    case h_3 i hi =>
      unfold ex_iload at hs
      split at hs
      · rename_i v hv
        simp only [cond_eq_ite] at hs
        split at hs
        · rename_i hI
          cases hs
          refine eG_1 hg fun l0 st0 h hl hst hH hE => ?_
          obtain ⟨x, h1, h2⟩ := eLo_find hl hv
          obtain ⟨y, rfl⟩ := eR_int hI h2
          exact ⟨l0, .int y :: st0, by rw [hi]; simp only [mi_step, mi_iload, h1], hl, _, _, rfl, enrm_R hE h2, hst⟩
        · cases hs
      · cases hs
    case h_4 i hi =>
      unfold ex_lload at hs
      split at hs
      · rename_i v hv
        cases hs
        refine eG_1 hg fun l0 st0 h hl hst hH hE => ?_
        obtain ⟨x, h1, h2⟩ := eLo_find hl hv
        have h2 : x = _ := h2
        subst h2
        exact ⟨l0, _ :: st0, by rw [hi]; simp only [mi_step, mi_lload, h1], hl, _, _, rfl, rfl, hst⟩
      · cases hs
    case h_5 i hi =>
      unfold ex_aload at hs
      split at hs
      · rename_i v hv
        cases hs
        refine eG_1 hg fun l0 st0 h hl hst hH hE => ?_
        obtain ⟨x, h1, h2⟩ := eLo_find hl hv
        have h2 : x = _ := h2
        subst h2
        exact ⟨l0, _ :: st0, by rw [hi]; simp only [mi_step, mi_aload, h1], hl, _, _, rfl, rfl, hst⟩
      · cases hs
    case h_6 i hi =>
      unfold ex_istore at hs
      split at hs
      · rename_i v st'
        simp only [cond_eq_ite] at hs
        split at hs
        · rename_i hI
          cases hs
          refine eG_1 hg fun l0 st0 h hl hst hH hE => ?_
          obtain ⟨x, s1, rfl, hx, hst⟩ := hst
          obtain ⟨y, rfl⟩ := eR_int hI hx
          exact ⟨_, s1, by rw [hi]; rfl, eLo_s1 hl hx, hst⟩
        · cases hs
      · cases hs
    case h_7 i hi =>
      unfold ex_lstore at hs
      split at hs
      · cases hs
        refine eG_1 hg fun l0 st0 h hl hst hH hE => ?_
        obtain ⟨x, s1, rfl, hx, hst⟩ := hst
        have hx' : x = _ := hx
        subst hx'
        exact ⟨_, s1, by rw [hi]; rfl, eLo_s2 hl hx, hst⟩
      · cases hs
    case h_8 i hi =>
      unfold ex_astore at hs
      split at hs
      · cases hs
        refine eG_1 hg fun l0 st0 h hl hst hH hE => ?_
        obtain ⟨x, s1, rfl, hx, hst⟩ := hst
        have hx' : x = _ := hx
        subst hx'
        exact ⟨_, s1, by rw [hi]; rfl, eLo_s1 hl hx, hst⟩
      · cases hs
    case h_9 i c hi =>
      unfold ex_iinc at hs
      split at hs
      · rename_i v hv
        split at hs
        · rename_i w hw
          cases hs
          refine eG_1 hg fun l0 st0 h hl hst hH hE => ?_
          obtain ⟨x, h1, h2⟩ := eLo_find hl hv
          obtain ⟨a, b, rfl, hb, h3⟩ := eadd_ok hw h2 (show eR S.2 (.inl (ecst c)) (.int (Int32.ofInt c)) from ⟨_, rfl, eb_ofInt c⟩)
          cases hb
          exact ⟨_, st0, by rw [hi]; simp only [mi_step, mi_iinc, h1], eLo_s1 hl h3, hst⟩
        · cases hs
      · cases hs
    case h_10 hi =>
      unfold ex_iadd at hs
      exact eG_bin (g := fun x y => some (x + y)) hg (fun f h => by rw [hi]; rfl) (fun v w r x y h1 h2 h3 => by obtain ⟨a, b, e1, e2, e3⟩ := eadd_ok h1 h2 h3; exact ⟨a, b, _, e1, e2, rfl, e3⟩) hs
    case h_11 hi =>
      unfold ex_isub at hs
      exact eG_bin (g := fun x y => some (x - y)) hg (fun f h => by rw [hi]; rfl) (fun v w r x y h1 h2 h3 => by obtain ⟨a, b, e1, e2, e3⟩ := esub_ok h1 h2 h3; exact ⟨a, b, _, e1, e2, rfl, e3⟩) hs
    case h_12 hi =>
      unfold ex_imul at hs
      exact eG_bin (g := fun x y => some (x * y)) hg (fun f h => by rw [hi]; rfl) (fun v w r x y h1 h2 h3 => by obtain ⟨a, b, e1, e2, e3⟩ := enn_ok (G := fun a b => a * b) pk_mul h1 h2 h3; exact ⟨a, b, _, e1, e2, rfl, e3⟩) hs
    case h_13 hi =>
      unfold ex_iand at hs
      exact eG_bin (g := fun x y => some (x &&& y)) hg (fun f h => by rw [hi]; rfl) (fun v w r x y h1 h2 h3 => by obtain ⟨a, b, e1, e2, e3⟩ := eand_ok h1 h2 h3; exact ⟨a, b, _, e1, e2, rfl, e3⟩) hs
    case h_14 hi =>
      unfold ex_ior at hs
      exact eG_bin (g := fun x y => some (x ||| y)) hg (fun f h => by rw [hi]; rfl) (fun v w r x y h1 h2 h3 => by obtain ⟨a, b, e1, e2, e3⟩ := enn_ok (G := fun a b => a ||| b) fa_or h1 h2 h3; exact ⟨a, b, _, e1, e2, rfl, e3⟩) hs
    case h_15 hi =>
      unfold ex_ishl at hs
      exact eG_bin (g := fun x y => some (x <<< (y &&& 31))) hg (fun f h => by rw [hi]; rfl) (fun v w r x y h1 h2 h3 => by obtain ⟨a, b, e1, e2, e3⟩ := eany2_ok (fun x y => x <<< (y &&& 31)) h1 h2 h3; exact ⟨a, b, _, e1, e2, rfl, e3⟩) hs
    case h_16 hi =>
      unfold ex_ishr at hs
      exact eG_bin (g := fun x y => some (x >>> (y &&& 31))) hg (fun f h => by rw [hi]; rfl) (fun v w r x y h1 h2 h3 => by obtain ⟨a, b, e1, e2, e3⟩ := eany2_ok (fun x y => x >>> (y &&& 31)) h1 h2 h3; exact ⟨a, b, _, e1, e2, rfl, e3⟩) hs
    case h_17 hi =>
      unfold ex_idiv at hs
      exact eG_bin (g := fun x y => if y = 0 then none else some (x / y)) hg (fun f h => by rw [hi]; rfl) (fun v w r x y h1 h2 h3 => by obtain ⟨a, b, e1, e2, e0, e3⟩ := edv_ok (G := fun a b => a / b) (fun a b ha h0 hb => pk_div ha h0 hb) (fun a b => Nat.div_le_self a b) h1 h2 h3; exact ⟨a, b, _, e1, e2, if_neg e0, e3⟩) hs
    case h_18 hi =>
      unfold ex_irem at hs
      exact eG_bin (g := fun x y => if y = 0 then none else some (x - x / y * y)) hg (fun f h => by rw [hi]; rfl) (fun v w r x y h1 h2 h3 => by obtain ⟨a, b, e1, e2, e0, e3⟩ := edv_ok (G := fun a b => a - a / b * b) (fun a b ha h0 hb => pk_rem ha h0 hb) (fun a b => Nat.mod_le a b) h1 h2 h3; exact ⟨a, b, _, e1, e2, if_neg e0, e3⟩) hs
    case h_19 hi =>
      unfold ex_i2b at hs
      split at hs
      · simp only [cond_eq_ite] at hs
        split at hs
        · rename_i hI
          cases hs
          refine eG_1 hg fun l0 st0 h hl hst hH hE => ?_
          obtain ⟨x, s1, rfl, hx, hst⟩ := hst
          obtain ⟨y, rfl⟩ := eR_int hI hx
          exact ⟨l0, _ :: s1, by rw [hi]; rfl, hl, _, _, rfl, eR_any _, hst⟩
        · cases hs
      · cases hs
    case h_20 hi =>
      unfold ex_lcmp at hs
      split at hs
      · simp only [cond_eq_ite] at hs
        split at hs
        · rename_i a b st' hq
          have hq := Nat.eq_of_beq_eq_true hq
          subst hq
          cases hs
          refine eG_1 hg fun l0 st0 h hl hst hH hE => ?_
          obtain ⟨x, s1, rfl, hx, y, s2, rfl, hy, hst⟩ := hst
          have hx : x = _ := hx
          have hy : y = _ := hy
          subst hx; subst hy
          exact ⟨l0, _ :: s2, by rw [hi]; rfl, hl, _, _, rfl, ⟨_, rfl, by rw [show lg_cmp (Int64.ofNat a) (Int64.ofNat a) = 0 by simp [lg_cmp]]; exact eb_zero⟩, hst⟩
        · cases hs
      · cases hs
    case h_21 cd tg hi =>
      unfold ex_ifCond at hs
      split at hs
      · rename_i v st'
        cases hb : ebr cd v (.inl 2147483648) en with
        | none => rw [hb] at hs; cases hs
        | some bs =>
          rw [hb] at hs
          simp only [Option.map_some, Option.some.injEq] at hs
          refine eG_cmp hg hb hs fun l0 st0 h hl hst => ?_
          obtain ⟨x, s1, rfl, hx, hst⟩ := hst
          refine ⟨x, .int 0, s1, hx, ⟨0, rfl, eb_zero⟩, hst, fun a b ha hb => ?_⟩
          subst ha; cases hb
          rw [hi]; rfl
      · cases hs
    case h_22 cd tg hi =>
      unfold ex_if_icmp at hs
      split at hs
      · rename_i w v st'
        cases hb : ebr cd v w en with
        | none => rw [hb] at hs; cases hs
        | some bs =>
          rw [hb] at hs
          simp only [Option.map_some, Option.some.injEq] at hs
          refine eG_cmp hg hb hs fun l0 st0 h hl hst => ?_
          obtain ⟨y, s1, rfl, hy, x, s2, rfl, hx, hst⟩ := hst
          refine ⟨x, y, s2, hx, hy, hst, fun a b ha hb => ?_⟩
          subst ha; subst hb
          rw [hi]; rfl
      · cases hs
    case h_23 tg hi =>
      unfold ex_goto at hs
      cases hs
      exact eG_1 hg fun l0 st0 h hl hst hH hE => ⟨l0, st0, by rw [hi]; rfl, hl, hst⟩
    case h_24 d lo hi offs hi' =>
      unfold ex_tableswitch at hs
      split at hs
      · rename_i v st'
        simp only [cond_eq_ite, Bool.and_eq_true, decide_eq_true_eq] at hs
        split at hs
        · rename_i hlo
          obtain ⟨hlo, hhi⟩ := hlo
          have hhi := e_ble.mp hhi
          have out : ∀ y : Int32, (y.toInt < lo ∨ hi < y.toInt) ↔ (eb y < (lo + 2147483648).toNat ∨ (hi + 2147483649).toNat ≤ eb y) := by
            intro y
            have := eb_int y
            omega
          split at hs
          · rename_i c hc
            simp only [Bool.or_eq_true] at hs
            split at hs
            · rename_i hq
              cases hs
              refine eG_1 hg fun l0 st0 h hl hst hH hE => ?_
              obtain ⟨x, s1, rfl, hx, hst⟩ := hst
              obtain ⟨y, rfl⟩ := ecn_int hc hx
              have hy := ecn_eb hE hc hx
              refine ⟨l0, s1, ?_, hl, hst⟩
              rw [hi']
              simp only [mi_step, mi_table]
              rw [if_pos ((out y).mpr (by rw [hy]; exact hq.imp e_blt.mp e_ble.mp))]
            · rename_i hq
              split at hs
              · rename_i tg htg
                cases hs
                refine eG_1 hg fun l0 st0 h hl hst hH hE => ?_
                obtain ⟨x, s1, rfl, hx, hst⟩ := hst
                obtain ⟨y, rfl⟩ := ecn_int hc hx
                have hy := ecn_eb hE hc hx
                refine ⟨l0, s1, ?_, hl, hst⟩
                rw [hi']
                simp only [mi_step, mi_table]
                have hno : ¬ (y.toInt < lo ∨ hi < y.toInt) := fun w => hq (by rw [← hy]; exact ((out y).mp w).imp e_blt.mpr e_ble.mpr)
                have hk : (y.toInt - lo).toNat = c - (lo + 2147483648).toNat := by
                  have := eb_int y
                  omega
                rw [if_neg hno, hk, ← Array.getElem?_toList, htg]
              · cases hs
          · split at hs
            · rename_i i _
              split at hs
              · rename_i a b hq
                cases hs
                intro fs h hr
                obtain ⟨⟨l0, st0, fs', rfl, hl, hst, hfs⟩, hH, hE⟩ := hr
                have hst' := hst
                obtain ⟨x, s1, rfl, hx, hst⟩ := hst
                have hx' : x = .int (erho S.2 i) := hx
                subst hx'
                have bd := hE i a b hq
                by_cases ho : eb (erho S.2 i) < (lo + 2147483648).toNat ∨ (hi + 2147483649).toNat ≤ eb (erho S.2 i)
                · obtain ⟨iv, hm, b1, b2⟩ : ∃ iv ∈ eref .lt a b (lo + 2147483648).toNat ++ eref .ge a b (hi + 2147483649).toNat, iv.1 ≤ eb (erho S.2 i) ∧ eb (erho S.2 i) ≤ iv.2 := by
                    rcases ho with q | q
                    · obtain ⟨iv, h1, h2⟩ := eref_ok (cd := .lt) (c := (lo + 2147483648).toNat) bd.1 bd.2 (e_blt.mpr q)
                      exact ⟨iv, List.mem_append_left _ h1, h2⟩
                    · obtain ⟨iv, h1, h2⟩ := eref_ok (cd := .ge) (c := (hi + 2147483649).toNat) bd.1 bd.2 (e_ble.mpr q)
                      exact ⟨iv, List.mem_append_right _ h1, h2⟩
                  have k := hg _ (List.mem_append_left _ (List.mem_map.mpr ⟨iv, hm, rfl⟩)) ((m, d.toNat, l0, s1) :: fs') h ⟨⟨l0, s1, fs', rfl, hl, hst, hfs⟩, hH, eEv_set hE b1 b2⟩
                  refine mi_T_st (f' := (d.toNat, l0, s1)) (h1 := h) ?_ k
                  simp only
                  rw [hi']
                  simp only [mi_step, mi_table]
                  rw [if_pos ((out _).mpr ho)]
                · have hk : eb (erho S.2 i) - (lo + 2147483648).toNat < offs.toList.length := by omega
                  refine hg _ (List.mem_append_right _ (List.mem_map.mpr ⟨eb (erho S.2 i) - (lo + 2147483648).toNat, List.mem_filter.mpr ⟨List.mem_range.mpr hk, ?_⟩, rfl⟩)) _ h ⟨⟨l0, _, fs', rfl, hl, hst', hfs⟩, hH, eEv_set hE (by omega) (by omega)⟩
                  simp only [Bool.and_eq_true]
                  exact ⟨e_ble.mpr (by omega), e_ble.mpr (by omega)⟩
              · cases hs
            · cases hs
        · cases hs
      · cases hs
    case h_25 hi =>
      unfold ex_dup at hs
      split at hs
      · simp only [cond_eq_ite] at hs
        split at hs
        · rename_i v st' hc
          cases hs
          refine eG_1 hg fun l0 st0 h hl hst hH hE => ?_
          obtain ⟨x, s1, rfl, hx, hst⟩ := hst
          exact ⟨l0, _, by rw [hi]; simp only [mi_step, mi_dup, eR_cat hx, Nat.eq_of_beq_eq_true hc, if_true], hl, _, _, rfl, hx, _, _, rfl, hx, hst⟩
        · cases hs
      · cases hs
    case h_26 hi =>
      unfold ex_dup2 at hs
      split at hs
      · simp only [cond_eq_ite, Bool.and_eq_true] at hs
        split at hs
        · rename_i v w st' hc
          cases hs
          refine eG_1 hg fun l0 st0 h hl hst hH hE => ?_
          obtain ⟨x, s1, rfl, hx, y, s2, rfl, hy, hst⟩ := hst
          exact ⟨l0, _, by rw [hi]; simp only [mi_step, mi_dup2, eR_cat hx, eR_cat hy, Nat.eq_of_beq_eq_true hc.1, Nat.eq_of_beq_eq_true hc.2, and_self, if_true], hl, _, _, rfl, hx, _, _, rfl, hy, _, _, rfl, hx, _, _, rfl, hy, hst⟩
        · cases hs
      · cases hs
    case h_27 hi =>
      unfold ex_pop at hs
      split at hs
      · simp only [cond_eq_ite] at hs
        split at hs
        · rename_i v st' hc
          cases hs
          refine eG_1 hg fun l0 st0 h hl hst hH hE => ?_
          obtain ⟨x, s1, rfl, hx, hst⟩ := hst
          exact ⟨l0, s1, by rw [hi]; simp only [mi_step, mi_pop, eR_cat hx, Nat.eq_of_beq_eq_true hc, if_true], hl, hst⟩
        · cases hs
      · cases hs
    case h_28 q hi =>
      rw [cond_eq_ite] at hs
      split at hs
      · cases hs
      rename_i h13
      have h13 : ¬ q / 128 = 13 := fun e => h13 (by rw [e]; rfl)
      unfold ex_getfield at hs
      split at hs
      · rename_i k st'
        split at hs
        · rename_i ce hce
          simp only [cond_eq_ite] at hs
          split at hs
          · rename_i hk
            split at hs
            · rename_i v hv
              cases hs
              refine eG_1 hg fun l0 st0 h hl hst hH hE => ?_
              obtain ⟨x, s1, rfl, hx, hst⟩ := hst
              have hx : x = _ := hx
              subst hx
              obtain ⟨c, h1, h2⟩ := hH.2 _ _ hce
              obtain ⟨fs, rfl, -, h3⟩ := eK_obj h2 (Nat.eq_of_beq_eq_true hk)
              obtain ⟨y, h4, h5⟩ := h3 _ _ hv
              exact ⟨l0, y :: s1, by rw [hi]; simp only [mi_step, if_neg h13, mi_getf, h1, h4, if_true], hl, _, _, rfl, h5, hst⟩
            · cases hs
          · cases hs
        · cases hs
      · cases hs
    case h_29 q hi =>
      unfold ex_putfield at hs
      split at hs
      · rename_i v k st'
        split at hs
        · rename_i ce hce
          simp only [cond_eq_ite, Bool.and_eq_true] at hs
          split at hs
          · rename_i hk
            obtain ⟨hk, hlt, hfit⟩ := hk
            cases hs
            refine eG_of hg fun l0 st0 h hl hst hH hE => ?_
            obtain ⟨x, s1, rfl, hx, y, s2, rfl, hy, hst⟩ := hst
            have hy : y = _ := hy
            subst hy
            obtain ⟨c, h1, h2⟩ := hH.2 _ _ hce
            have hk := Nat.eq_of_beq_eq_true hk
            have hlt := e_blt.mp hlt
            obtain ⟨fs, rfl, hlen, h3⟩ := eK_obj h2 hk
            refine ⟨(pc + 1, l0, s2), mi_w h k (.inr (q / 128, fs.set (q % 128) x)), l, st', n, eupd t k ce (q % 128) v, en, ?_, List.mem_singleton_self _, hl, hst, ?_, hE⟩
            · rw [hi]
              simp only [mi_step, mi_putf, h1]
              rw [if_pos ⟨by simp, by omega, efit_ok hfit hx⟩]
            · refine eHp_w hH h1 (Or.inr ⟨hk, by simp [hlen], fun j w hw => ?_⟩)
              rw [elk_put] at hw
              by_cases hj : q % 128 = j
              · subst hj
                rw [if_pos rfl] at hw
                cases hw
                exact ⟨x, List.getElem?_set_self (by omega), hx⟩
              · rw [if_neg hj] at hw
                obtain ⟨z, g1, g2⟩ := h3 j w hw
                exact ⟨z, by rw [List.getElem?_set_ne hj]; exact g1, g2⟩
          · cases hs
        · cases hs
      · cases hs
    case h_30 hi =>
      unfold ex_iaload at hs
      split at hs
      · rename_i iv k st'
        split at hs
        · exact esplit_ok hg hs
        · rename_i c hc
          simp only [cond_eq_ite, Bool.and_eq_true] at hs
          split at hs
          · rename_i hk
            have hk := Nat.eq_of_beq_eq_true hk
            subst hk
            split at hs
            · rename_i hq
              obtain ⟨h1, h2, h3⟩ := hq
              have h1 := e_ble.mp h1
              have h2 := e_blt.mp h2
              have h3 := e_blt.mp h3
              cases hs
              refine eG_1 hg fun l0 st0 h hl hst hH hE => ?_
              obtain ⟨x, s1, rfl, hx, y, s2, rfl, hy, hst⟩ := hst
              have hy : y = _ := hy
              subst hy
              obtain ⟨i, rfl⟩ := ecn_int hc hx
              obtain ⟨g1, g2⟩ := eix (ecn_eb hE hc hx) h1 h2
              refine ⟨l0, .int (S.2 i.toNatClampNeg) :: s2, by rw [hi]; simp only [mi_step, mi_iald, g1, if_true], hl, _, _, rfl, ?_, hst⟩
              have he : erho S.2 (c - 2147483648) = S.2 i.toNatClampNeg := by
                unfold erho
                rw [if_pos h3, g2]
              show Value.int (S.2 i.toNatClampNeg) = Value.int (erho S.2 (c - 2147483648))
              rw [he]
            · cases hs
          · rename_i hk
            split at hs
            · rename_i ce j hp
              split at hs
              · rename_i v hv
                cases hs
                obtain ⟨p1, p2, p3, p4, hj⟩ := eplace_ok hp
                subst hj
                have p2 := Nat.eq_of_beq_eq_true p2
                refine eG_1 hg fun l0 st0 h hl hst hH hE => ?_
                obtain ⟨x, s1, rfl, hx, y, s2, rfl, hy, hst⟩ := hst
                have hy : y = _ := hy
                subst hy
                obtain ⟨i, rfl⟩ := ecn_int hc hx
                obtain ⟨g1, g2⟩ := eix (ecn_eb hE hc hx) p3 p4
                obtain ⟨cl, h1, h2⟩ := hH.2 _ _ p1
                obtain ⟨g, rfl, h3⟩ := eK_int h2 (by omega)
                have h4 := h3 _ _ hv
                rw [← g2] at h4
                refine ⟨l0, .int (g i.toNatClampNeg) :: s2, ?_, hl, _, _, rfl, h4, hst⟩
                rw [hi]
                simp only [mi_step, mi_iald, h1]
                rw [if_neg (fun q => hk (by rw [q]; rfl)), if_pos ⟨p2, g1⟩]
              · cases hs
            · cases hs
      · cases hs
    case h_31 hi =>
      unfold ex_baload at hs
      split at hs
      · rename_i iv k st'
        split at hs
        · exact esplit_ok hg hs
        · rename_i c hc
          split at hs
          · rename_i ce j hp
            split at hs
            · rename_i v hv
              cases hs
              obtain ⟨p1, p2, p3, p4, hj⟩ := eplace_ok hp
              subst hj
              simp only [Bool.or_eq_true] at p2
              have p2 := p2.imp Nat.eq_of_beq_eq_true Nat.eq_of_beq_eq_true
              refine eG_1 hg fun l0 st0 h hl hst hH hE => ?_
              obtain ⟨x, s1, rfl, hx, y, s2, rfl, hy, hst⟩ := hst
              have hy : y = _ := hy
              subst hy
              obtain ⟨i, rfl⟩ := ecn_int hc hx
              obtain ⟨g1, g2⟩ := eix (ecn_eb hE hc hx) p3 p4
              obtain ⟨cl, h1, h2⟩ := hH.2 _ _ p1
              obtain ⟨g, rfl, h3⟩ := eK_int h2 (by omega)
              have h4 := h3 _ _ hv
              rw [← g2] at h4
              refine ⟨l0, .int (g i.toNatClampNeg) :: s2, ?_, hl, _, _, rfl, h4, hst⟩
              rw [hi]
              have h34 : ¬ (k = 3 ∨ k = 4) := by have := (mi_c_of h1).1; omega
              simp only [mi_step, mi_bald, if_neg h34, h1]
              rw [if_pos ⟨p2, g1⟩]
            · cases hs
          · cases hs
      · cases hs
    case h_32 hi =>
      unfold ex_aaload at hs
      split at hs
      · rename_i iv k st'
        split at hs
        · exact esplit_ok hg hs
        · rename_i c hc
          split at hs
          · rename_i ce j hp
            split at hs
            · rename_i v hv
              cases hs
              obtain ⟨p1, p2, p3, p4, hj⟩ := eplace_ok hp
              subst hj
              have p2 := Nat.eq_of_beq_eq_true p2
              refine eG_1 hg fun l0 st0 h hl hst hH hE => ?_
              obtain ⟨x, s1, rfl, hx, y, s2, rfl, hy, hst⟩ := hst
              have hy : y = _ := hy
              subst hy
              obtain ⟨i, rfl⟩ := ecn_int hc hx
              obtain ⟨g1, g2⟩ := eix (ecn_eb hE hc hx) p3 p4
              obtain ⟨cl, h1, h2⟩ := hH.2 _ _ p1
              obtain ⟨g, rfl, h3⟩ := eK_refs h2 p2
              obtain ⟨r, h4, h5⟩ := h3 _ _ hv
              rw [← g2] at h4
              refine ⟨l0, .ref r :: s2, ?_, hl, _, _, rfl, h5, hst⟩
              rw [hi]
              simp only [mi_step, mi_aald, h1]
              rw [if_pos ⟨trivial, g1⟩]
              simp only [h4]
            · cases hs
          · cases hs
      · cases hs
    case h_33 hi =>
      unfold ex_iastore at hs
      split at hs
      · rename_i v iv k st'
        split at hs
        · exact esplit_ok hg hs
        · rename_i c hc
          split at hs
          · rename_i ce j hp
            simp only [cond_eq_ite] at hs
            split at hs
            · rename_i hI
              cases hs
              obtain ⟨p1, p2, p3, p4, hj⟩ := eplace_ok hp
              subst hj
              have p2 := Nat.eq_of_beq_eq_true p2
              refine eG_of hg fun l0 st0 h hl hst hH hE => ?_
              obtain ⟨w, s0, rfl, hw, x, s1, rfl, hx, y, s2, rfl, hy, hst⟩ := hst
              have hy : y = _ := hy
              subst hy
              obtain ⟨i, rfl⟩ := ecn_int hc hx
              obtain ⟨a, rfl⟩ := eR_int hI hw
              obtain ⟨g1, g2⟩ := eix (ecn_eb hE hc hx) p3 p4
              obtain ⟨cl, h1, h2⟩ := hH.2 _ _ p1
              obtain ⟨g, rfl, h3⟩ := eK_int h2 (by omega)
              refine ⟨(pc + 1, l0, s2), mi_w h k (.inl (ce.1, ce.2.1, .inl (upd g i.toNatClampNeg a))), l, st', n, eupd t k ce (c - 2147483648) v, en, ?_, List.mem_singleton_self _, hl, hst, ?_, hE⟩
              · rw [hi]
                simp only [mi_step, mi_iast, h1]
                rw [if_pos ⟨p2, g1⟩]
              · rw [g2]
                exact eHp_w hH h1 (eK_upd (by omega) h3 hw)
            · cases hs
          · cases hs
      · cases hs
    case h_34 hi =>
      unfold ex_bastore at hs
      split at hs
      · rename_i v iv k st'
        split at hs
        · exact esplit_ok hg hs
        · rename_i c hc
          split at hs
          · rename_i ce j hp
            simp only [cond_eq_ite] at hs
            split at hs
            · rename_i hI
              cases hs
              obtain ⟨p1, p2, p3, p4, hj⟩ := eplace_ok hp
              subst hj
              have p2 := Nat.eq_of_beq_eq_true p2
              refine eG_of hg fun l0 st0 h hl hst hH hE => ?_
              obtain ⟨w, s0, rfl, hw, x, s1, rfl, hx, y, s2, rfl, hy, hst⟩ := hst
              have hy : y = _ := hy
              subst hy
              obtain ⟨i, rfl⟩ := ecn_int hc hx
              obtain ⟨a, rfl⟩ := eR_int hI hw
              obtain ⟨g1, g2⟩ := eix (ecn_eb hE hc hx) p3 p4
              obtain ⟨cl, h1, h2⟩ := hH.2 _ _ p1
              obtain ⟨g, rfl, h3⟩ := eK_int h2 (by omega)
              refine ⟨(pc + 1, l0, s2), mi_w h k (.inl (ce.1, ce.2.1, .inl (upd g i.toNatClampNeg (vp_nar .byte a)))), l, st', n, eupd t k ce (c - 2147483648) eanyv, en, ?_, List.mem_singleton_self _, hl, hst, ?_, hE⟩
              · rw [hi]
                simp only [mi_step, mi_bast, h1]
                rw [if_pos g1, if_pos p2]
              · rw [g2]
                exact eHp_w hH h1 (eK_upd (by omega) h3 (eR_any _))
            · cases hs
          · split at hs
            · rename_i ce j hp
              split at hs
              · rename_i x0
                simp only [cond_eq_ite, Bool.or_eq_true] at hs
                split at hs
                · rename_i hb
                  cases hs
                  obtain ⟨p1, p2, p3, p4, hj⟩ := eplace_ok hp
                  subst hj
                  have p2 := Nat.eq_of_beq_eq_true p2
                  refine eG_of hg fun l0 st0 h hl hst hH hE => ?_
                  obtain ⟨w, s0, rfl, hw, x, s1, rfl, hx, y, s2, rfl, hy, hst⟩ := hst
                  have hy : y = _ := hy
                  subst hy
                  obtain ⟨i, rfl⟩ := ecn_int hc hx
                  obtain ⟨a, rfl, ha⟩ := hw
                  obtain ⟨g1, g2⟩ := eix (ecn_eb hE hc hx) p3 p4
                  obtain ⟨cl, h1, h2⟩ := hH.2 _ _ p1
                  obtain ⟨g, rfl, h3⟩ := eK_int h2 (by omega)
                  have hna : vp_nar .boolean a = a := by
                    rcases hb with hb | hb
                    · have : a = 0 := eb_inj (ha.trans ((Nat.eq_of_beq_eq_true hb).trans eb_zero.symm))
                      subst this; decide +kernel
                    · have : a = 1 := eb_inj (ha.trans ((Nat.eq_of_beq_eq_true hb).trans (by decide +kernel)))
                      subst this; decide +kernel
                  refine ⟨(pc + 1, l0, s2), mi_w h k (.inl (ce.1, ce.2.1, .inl (upd g i.toNatClampNeg (vp_nar .boolean a)))), l, st', n, eupd t k ce (c - 2147483648) (.inl x0), en, ?_, List.mem_singleton_self _, hl, hst, ?_, hE⟩
                  · rw [hi]
                    simp only [mi_step, mi_bast, h1]
                    rw [if_pos g1, if_neg (by omega), if_pos p2]
                  · rw [g2, hna]
                    exact eHp_w hH h1 (eK_upd (by omega) h3 ⟨a, rfl, ha⟩)
                · cases hs
              · cases hs
            · cases hs
      · cases hs
    case h_35 hi =>
      unfold ex_aastore at hs
      split at hs
      · rename_i r iv k st'
        split at hs
        · exact esplit_ok hg hs
        · rename_i c hc
          split at hs
          · rename_i ce j cr hp hcr
            simp only [cond_eq_ite] at hs
            split at hs
            · rename_i hnow
              cases hs
              obtain ⟨p1, p2, p3, p4, hj⟩ := eplace_ok hp
              subst hj
              have p2 := Nat.eq_of_beq_eq_true p2
              refine eG_of hg fun l0 st0 h hl hst hH hE => ?_
              obtain ⟨w, s0, rfl, hw, x, s1, rfl, hx, y, s2, rfl, hy, hst⟩ := hst
              have hy : y = _ := hy
              have hw : w = _ := hw
              subst hy; subst hw
              obtain ⟨i, rfl⟩ := ecn_int hc hx
              obtain ⟨g1, g2⟩ := eix (ecn_eb hE hc hx) p3 p4
              obtain ⟨cl, h1, h2⟩ := hH.2 _ _ p1
              obtain ⟨g, rfl, h3⟩ := eK_refs h2 p2
              obtain ⟨cl2, h4, h5⟩ := hH.2 _ _ hcr
              obtain ⟨fs, rfl, -, -⟩ := eK_obj h5 (Nat.eq_of_beq_eq_true hnow)
              refine ⟨(pc + 1, l0, s2), mi_w h k (.inl (4, ce.2.1, .inr (.inr (va_up g i.toNatClampNeg (some r))))), l, st', n, eupd t k ce (c - 2147483648) (.inr (.inr (.inl r))), en, ?_, List.mem_singleton_self _, hl, hst, ?_, hE⟩
              · rw [hi]
                simp only [mi_step, mi_aast, h1, h4]
                rw [if_pos ⟨trivial, g1, trivial⟩]
              · rw [g2]
                refine eHp_w hH h1 (Or.inr ⟨p2, rfl, rfl, fun q v hv => ?_⟩)
                rw [elk_put] at hv
                unfold va_up
                by_cases hq : c - 2147483648 = q
                · rw [if_pos hq] at hv
                  rw [if_pos hq.symm]
                  cases hv
                  exact ⟨r, rfl, rfl⟩
                · rw [if_neg hq] at hv
                  rw [if_neg (fun z => hq z.symm)]
                  exact h3 q v hv
            · cases hs
          · cases hs
      · cases hs
    case h_36 hi =>
      unfold ex_arraylength at hs
      split at hs
      · rename_i k st'
        simp only [cond_eq_ite, Bool.and_eq_true] at hs
        split at hs
        · rename_i hk
          have hk := Nat.eq_of_beq_eq_true hk
          subst hk
          split at hs
          · rename_i hL
            have hL := e_ble.mp hL
            cases hs
            refine eG_1 hg fun l0 st0 h hl hst hH hE => ?_
            obtain ⟨x, s1, rfl, hx, hst⟩ := hst
            have hx : x = _ := hx
            subst hx
            exact ⟨l0, .int (Int32.ofNat S.1) :: s1, by rw [hi]; simp only [mi_step, mi_alen, if_true], hl, _, _, rfl, ⟨_, rfl, eb_nI (by omega)⟩, hst⟩
          · cases hs
        · rename_i hk
          split at hs
          · rename_i ce hce
            split at hs
            · rename_i hq
              have q1 := e_blt.mp hq.1
              have q2 := e_ble.mp hq.2
              cases hs
              refine eG_1 hg fun l0 st0 h hl hst hH hE => ?_
              obtain ⟨x, s1, rfl, hx, hst⟩ := hst
              have hx : x = _ := hx
              subst hx
              obtain ⟨cl, h1, h2⟩ := hH.2 _ _ hce
              obtain ⟨g, rfl⟩ := eK_arr h2 q1
              refine ⟨l0, .int (Int32.ofNat ce.2.1) :: s1, ?_, hl, _, _, rfl, ⟨_, rfl, eb_nI (by omega)⟩, hst⟩
              rw [hi]
              have h34 : ¬ (k = 3 ∨ k = 4) := by have := (mi_c_of h1).1; omega
              simp only [mi_step, mi_alen, if_neg h34, h1]
              rw [if_neg (fun q => hk (by rw [q]; rfl)), if_pos q1]
            · cases hs
          · cases hs
      · cases hs
    case h_37 a hi =>
      unfold ex_newarray at hs
      split at hs
      · rename_i v st'
        split at hs
        · rename_i c hc
          simp only [cond_eq_ite, Bool.and_eq_true] at hs
          split at hs
          · rename_i hq
            have q1 := e_ble.mp hq.1
            have q2 := e_ble.mp hq.2
            have key : ∀ (ce : eC) (cl : Nat → mC), mi_blank a (c - 2147483648) = some (cl (c - 2147483648)) → eK S.2 ce (cl (c - 2147483648)) → (∀ s' ∈ ([((m, pc + 1, l, .inr (.inr (.inl (n + 6))) :: st') :: fr, n + 1, eset t (n + 6) ce, en)] : List eS), eG P S D s') → eG P S D ((m, pc, l, v :: st') :: fr, n, t, en) := by
              intro ce cl hbl hK hg
              refine eG_of hg fun l0 st0 h hl hst hH hE => ?_
              obtain ⟨x, s1, rfl, hx, hst⟩ := hst
              obtain ⟨y, rfl⟩ := ecn_int hc hx
              have hy := ecn_eb hE hc hx
              have hyc := eb_clamp (x := y) (by omega)
              have hyi := eb_int y
              refine ⟨(pc + 1, l0, .ref (h.length + 6) :: s1), h ++ [cl (c - 2147483648)], l, _, n + 1, _, en, ?_, List.mem_singleton_self _, hl, ⟨_, _, rfl, by rw [hH.1]; rfl, hst⟩, eHp_a hH hK, hE⟩
              rw [hi]
              simp only [mi_step, mi_newa]
              rw [if_pos (by omega), hyc, hy, hbl]
            split at hs
            · cases hs
              exact key (0, c - 2147483648, some (.inl 2147483648), []) (fun k => .inl (0, k, .inl (fun _ => 0))) (mi_bl0 _) (eK_b0 _ _) hg
            · cases hs
              exact key (1, c - 2147483648, some (.inl 2147483648), []) (fun k => .inl (1, k, .inl (fun _ => 0))) (mi_bl1 _) (eK_b1 _ _) hg
            · cases hs
              exact key (2, c - 2147483648, some (.inl 2147483648), []) (fun k => .inl (2, k, .inl (fun _ => 0))) (mi_bl2 _) (eK_b2 _ _) hg
            · cases hs
              exact key (3, c - 2147483648, some (.inr (.inr (.inr (.inl 0)))), []) (fun k => .inl (3, k, .inr (.inl (fun _ => 0)))) (mi_bl3 _) (eK_b3 _ _) hg
            · cases hs
          · cases hs
        · cases hs
      · cases hs
    case h_38 ci hi =>
      unfold ex_anewarray at hs
      split at hs
      · rename_i v st'
        split at hs
        · rename_i c hc
          simp only [cond_eq_ite, Bool.and_eq_true] at hs
          split at hs
          · rename_i hq
            have q1 := e_ble.mp hq.1
            have q2 := e_ble.mp hq.2.1
            have q3 := Nat.eq_of_beq_eq_true hq.2.2
            cases hs
            refine eG_of hg fun l0 st0 h hl hst hH hE => ?_
            obtain ⟨x, s1, rfl, hx, hst⟩ := hst
            obtain ⟨y, rfl⟩ := ecn_int hc hx
            have hy := ecn_eb hE hc hx
            have hyc := eb_clamp (x := y) (by omega)
            have hyi := eb_int y
            refine ⟨(pc + 1, l0, .ref (h.length + 6) :: s1), h ++ [.inl (4, c - 2147483648, .inr (.inr (fun _ => none)))], l, _, n + 1, _, en, ?_, List.mem_singleton_self _, hl, ⟨_, _, rfl, by rw [hH.1]; rfl, hst⟩, eHp_a (c := .inl (4, c - 2147483648, .inr (.inr (fun _ => none)))) hH (eK_b4 _ _), hE⟩
            rw [hi]
            simp only [mi_step, mi_newq]
            rw [if_pos ⟨by omega, by omega, q3⟩, hyc, hy]
          · cases hs
        · cases hs
      · cases hs
    case h_39 ci hi =>
      unfold ex_new at hs
      split at hs
      · rename_i fs hfs
        cases hs
        refine eG_of hg fun l0 st0 h hl hst hH hE => ?_
        refine ⟨(pc + 1, l0, .ref (h.length + 6) :: st0), h ++ [.inr (ci, fs)], l, _, n + 1, _, en, ?_, List.mem_singleton_self _, hl, ⟨_, _, rfl, by rw [hH.1]; rfl, hst⟩, eHp_a (c := .inr (ci, fs)) hH (Or.inr ⟨rfl, rfl, fun j w hw => edf_ok hfs hw⟩), hE⟩
        rw [hi]
        simp only [mi_step, mi_new, hfs]
      · cases hs
    case h_40 a hi =>
      unfold ex_invokedynamic at hs
      simp only [cond_eq_ite] at hs
      split at hs
      · rename_i ha
        have ha := Nat.eq_of_beq_eq_true ha
        subst ha
        split at hs
        · split at hs
          · rename_i k st' hq
            have hq := e_ble.mp hq
            cases hs
            refine eG_1 hg fun l0 st0 h hl hst hH hE => ?_
            obtain ⟨x, s1, rfl, hx, hst⟩ := hst
            have hx : x = _ := hx
            subst hx
            exact ⟨l0, s1, by rw [hi]; simp only [mi_step, mi_obj, if_true, eSt_cats hst, hq], hl, hst⟩
          · cases hs
        · cases hs
      · split at hs
        · rename_i ha0 ha
          have ha := Nat.eq_of_beq_eq_true ha
          subst ha
          split at hs
          · rename_i x dp k1 sp k0 st'
            split at hs
            · rename_i c0 d0 p0 ce0 ce1 hx hdp hsp h0 h1
              simp only [Bool.and_eq_true] at hs
              split at hs
              · rename_i hq
                obtain ⟨q1, q2, q3, q4, q5, q6, q7, q8⟩ := hq
                have q1 := Nat.eq_of_beq_eq_true q1
                have q2 := Nat.eq_of_beq_eq_true q2
                have q3 := e_ble.mp q3
                have q4 := e_ble.mp q4
                have q5 := e_ble.mp q5
                have q6 := e_ble.mp q6
                have q7 := e_ble.mp q7
                have q8 := e_ble.mp q8
                split at hs
                · rename_i es hes
                  cases hs
                  refine eG_of hg fun l0 st0 h hl hst hH hE => ?_
                  obtain ⟨a1, s1, rfl, r1, a2, s2, rfl, r2, a3, s3, rfl, r3, a4, s4, rfl, r4, a5, s5, rfl, r5, hst⟩ := hst
                  have r3 : a3 = _ := r3
                  have r5 : a5 = _ := r5
                  subst r3; subst r5
                  obtain ⟨y1, rfl⟩ := ecn_int hx r1
                  obtain ⟨y2, rfl⟩ := ecn_int hdp r2
                  obtain ⟨y4, rfl⟩ := ecn_int hsp r4
                  have b1 := ecn_eb hE hx r1
                  have b2 := ecn_eb hE hdp r2
                  have b4 := ecn_eb hE hsp r4
                  obtain ⟨cl0, g1, g2⟩ := hH.2 _ _ h0
                  obtain ⟨cl1, g3, g4⟩ := hH.2 _ _ h1
                  obtain ⟨f0, rfl, k0'⟩ := eK_int g2 (by omega)
                  obtain ⟨f1, rfl, k1'⟩ := eK_int g4 (by omega)
                  have i1 := eb_int y1
                  have i2 := eb_int y2
                  have i4 := eb_int y4
                  have c1 := eb_clamp (x := y1) (by omega)
                  have c2 := eb_clamp (x := y2) (by omega)
                  have c4 := eb_clamp (x := y4) (by omega)
                  refine ⟨(pc + 1, l0, s5), mi_w h k1 (.inl (ce1.1, ce1.2.1, .inl (va_cpy f0 f1 y4.toNatClampNeg y2.toNatClampNeg y1.toNatClampNeg))), l, st', n, _, en, ?_, List.mem_singleton_self _, hl, hst, ?_, hE⟩
                  · rw [hi]
                    simp only [mi_step, mi_copy, g1, g3]
                    rw [if_neg (by decide), if_pos trivial, if_pos ⟨q1, q2, by omega, by omega, by omega, by omega, by omega, by rw [eSt_cats hst]; exact q8⟩]
                  · rw [c1, c2, c4, b1, b2, b4]
                    exact eHp_w hH g3 (ecopy_ok (by omega) k0' k1' hes)
                · cases hs
              · cases hs
            · cases hs
          · cases hs
        · rename_i ha0 ha1
          split at hs
          · rename_i ha
            have ha := Nat.eq_of_beq_eq_true ha
            subst ha
            split at hs
            · rename_i w v st'
              split at hs
              · rename_i hq
                have hq := e_ble.mp hq
                cases hr : emm (fun a b => if Nat.blt a b = true then b else a) v w with
                | none => rw [hr] at hs; cases hs
                | some r =>
                  rw [hr] at hs
                  cases hs
                  refine eG_1 hg fun l0 st0 h hl hst hH hE => ?_
                  obtain ⟨y, s1, rfl, hy, x, s2, rfl, hx, hst⟩ := hst
                  obtain ⟨a, b, rfl, rfl, e3⟩ := emm_ok (G := fun a b => if a < b then b else a) (fun a b => by rw [eb_max, cond_eq_ite]) hr hx hy
                  exact ⟨l0, _ :: s2, by rw [hi]; simp only [mi_step, mi_mm, eSt_cats hst, hq, if_true]; rw [if_neg (by decide), if_neg (by decide)], hl, _, _, rfl, e3, hst⟩
              · cases hs
            · cases hs
          · split at hs
            · rename_i ha5 ha
              have ha := Nat.eq_of_beq_eq_true ha
              subst ha
              split at hs
              · rename_i w v st'
                split at hs
                · rename_i hq
                  have hq := e_ble.mp hq
                  cases hr : emm (fun a b => if Nat.blt b a = true then b else a) v w with
                  | none => rw [hr] at hs; cases hs
                  | some r =>
                    rw [hr] at hs
                    cases hs
                    refine eG_1 hg fun l0 st0 h hl hst hH hE => ?_
                    obtain ⟨y, s1, rfl, hy, x, s2, rfl, hx, hst⟩ := hst
                    obtain ⟨a, b, rfl, rfl, e3⟩ := emm_ok (G := fun a b => if b < a then b else a) (fun a b => by rw [eb_min, cond_eq_ite]) hr hx hy
                    exact ⟨l0, _ :: s2, by rw [hi]; simp only [mi_step, mi_mm, eSt_cats hst, hq, if_true]; rw [if_neg (by decide), if_neg (by decide), if_neg (by decide)], hl, _, _, rfl, e3, hst⟩
                · cases hs
              · cases hs
            · cases hs
    case h_41 y hi =>
      unfold ex_invokevirtual at hs
      simp only [cond_eq_ite, Bool.and_eq_true] at hs
      split at hs
      · rename_i hq
        obtain ⟨q1, q2, q3, q4, q5⟩ := hq
        have q1 := e_ble.mp q1
        have q2 := e_ble.mp q2
        have q3 := e_ble.mp q3
        have q5 := e_blt.mp q5
        cases hs
        intro fs h hr
        obtain ⟨⟨l0, st0, fs', rfl, hl, hst, hfs⟩, hH, hE⟩ := hr
        have hlen := eSt_len hst
        have hfl := eFs_len hfs
        have k := hg _ (List.mem_singleton_self _) ((y, 0, mi_ent 0 (st0.take (P.get y).2.1).reverse, []) :: (m, pc + 1, l0, st0.drop (P.get y).2.1) :: fs') h ⟨⟨_, [], _, rfl, eent_ok 0 (eSt_rev (eSt_take _ hst)), rfl, l0, _, fs', rfl, hl, eSt_drop _ hst, hfs⟩, hH, hE⟩
        obtain ⟨d', hd⟩ : ∃ d', D - fs'.length = d' + 1 := ⟨D - fs'.length - 1, by omega⟩
        have hd' : D - ((m, pc + 1, l0, st0.drop (P.get y).2.1) :: fs').length = d' := by
          simp only [List.length_cons]
          omega
        show mi_T P S (D - fs'.length) m (pc, l0, st0) h (eKs P S D fs')
        rw [hd]
        refine mi_T_ca (as := (st0.take (P.get y).2.1).reverse) (rest := st0.drop (P.get y).2.1) hi ?_ ?_ ?_ ?_ ?_
        · simp only [mi_args]
          rw [if_pos (by omega)]
        · rw [eSt_cats (eSt_drop _ hst)]; exact q2
        · rw [List.map_reverse, List.sum_reverse, eSt_cats (eSt_take _ hst)]; exact q3
        · exact ercv_ok hH (eSt_rev (eSt_take _ hst)) q4
        · have k2 : mi_T P S (D - ((m, pc + 1, l0, st0.drop (P.get y).2.1) :: fs').length) y (0, mi_ent 0 (st0.take (P.get y).2.1).reverse, []) h (eKs P S D ((m, pc + 1, l0, st0.drop (P.get y).2.1) :: fs')) := k
          rw [hd'] at k2
          refine mi_T_mono k2 fun r h' hq => ?_
          have hq : mi_T P S (D - fs'.length) m (pc + 1, l0, r.toList ++ st0.drop (P.get y).2.1) h' (eKs P S D fs') := hq
          rw [hd] at hq
          exact hq
      · cases hs
    case h_42 hi =>
      unfold ex_return_ at hs
      split at hs
      · rename_i m1 pc1 l1 st1 fr'
        cases hs
        intro fs h hr
        obtain ⟨⟨l0, st0, fs', rfl, hl, hst, hfs⟩, hH, hE⟩ := hr
        have hst : st0 = [] := hst
        subst hst
        obtain ⟨l2, s2, fs2, rfl, h1, h2, h3⟩ := hfs
        have k := hg _ (List.mem_singleton_self _) ((m1, pc1, l2, s2) :: fs2) h ⟨⟨l2, s2, fs2, rfl, h1, h2, h3⟩, hH, hE⟩
        exact mi_T_re rfl hi k
      · cases hs
    case h_43 hi =>
      unfold ex_ireturn at hs
      split at hs
      · split at hs
        · rename_i c
          simp only [cond_eq_ite, Bool.and_eq_true] at hs
          split at hs
          · rename_i hc
            obtain ⟨hc, hn6⟩ := hc
            have hc := Nat.eq_of_beq_eq_true hc
            have hn6 := e_ble.mp hn6
            subst hc
            intro fs h hr
            obtain ⟨⟨l0, st0, fs', rfl, hl, hst, hfs⟩, hH, hE⟩ := hr
            obtain ⟨x, s1, rfl, ⟨y, rfl, hy⟩, hst⟩ := hst
            have hst : s1 = [] := hst
            subst hst
            have hfs : fs' = [] := hfs
            subst hfs
            have : y = 1 := eb_inj (hy.trans (by decide +kernel))
            subst this
            refine mi_T_ri (v := 1) rfl hi ?_ ⟨rfl, by rw [hH.1]; exact hn6⟩
            unfold mi_retz
            split <;> (first | rfl | (split <;> rfl))
          · cases hs
        · cases hs
      · rename_i v m1 pc1 l1 st1 fr'
        simp only [cond_eq_ite] at hs
        split at hs
        · rename_i hc
          cases hs
          intro fs h hr
          obtain ⟨⟨l0, st0, fs', rfl, hl, hst, hfs⟩, hH, hE⟩ := hr
          obtain ⟨x, s1, rfl, hx, hst⟩ := hst
          have hst : s1 = [] := hst
          subst hst
          obtain ⟨l2, s2, fs2, rfl, h1, h2, h3⟩ := hfs
          obtain ⟨y, rfl, hz⟩ := eretz_ok hc hx
          have k := hg _ (List.mem_singleton_self _) ((m1, pc1, l2, .int y :: s2) :: fs2) h ⟨⟨l2, _, fs2, rfl, h1, ⟨_, _, rfl, hx, h2⟩, h3⟩, hH, hE⟩
          exact mi_T_ri rfl hi hz k
        · cases hs
      · cases hs
    case h_44 hi =>
      unfold ex_lreturn at hs
      split at hs
      · rename_i v m1 pc1 l1 st1 fr'
        cases hs
        intro fs h hr
        obtain ⟨⟨l0, st0, fs', rfl, hl, hst, hfs⟩, hH, hE⟩ := hr
        obtain ⟨x, s1, rfl, hx, hst⟩ := hst
        have hst : s1 = [] := hst
        subst hst
        have hx' : x = _ := hx
        subst hx'
        obtain ⟨l2, s2, fs2, rfl, h1, h2, h3⟩ := hfs
        have k := hg _ (List.mem_singleton_self _) ((m1, pc1, l2, _ :: s2) :: fs2) h ⟨⟨l2, _, fs2, rfl, h1, ⟨_, _, rfl, hx, h2⟩, h3⟩, hH, hE⟩
        exact mi_T_rl rfl hi k
      · cases hs
    case h_45 hi =>
      unfold ex_areturn at hs
      split at hs
      · rename_i v m1 pc1 l1 st1 fr'
        cases hs
        intro fs h hr
        obtain ⟨⟨l0, st0, fs', rfl, hl, hst, hfs⟩, hH, hE⟩ := hr
        obtain ⟨x, s1, rfl, hx, hst⟩ := hst
        have hst : s1 = [] := hst
        subst hst
        have hx' : x = _ := hx
        subst hx'
        obtain ⟨l2, s2, fs2, rfl, h1, h2, h3⟩ := hfs
        have k := hg _ (List.mem_singleton_self _) ((m1, pc1, l2, _ :: s2) :: fs2) h ⟨⟨l2, _, fs2, rfl, h1, ⟨_, _, rfl, hx, h2⟩, h3⟩, hH, hE⟩
        exact mi_T_ra rfl hi k
      · cases hs
    case h_46 => cases hs
end EZ
