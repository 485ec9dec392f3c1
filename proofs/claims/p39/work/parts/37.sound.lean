/-! THE STEP IS SOUND: instructions that are no call and no return -/
def zLs (Ls : Bool) (S : Nat × (Nat → Int32)) (r0 : List Int) : Prop := Ls = true → r0[0]? = some (S.1 : Int) ∧ S.1 ≤ 10000
/-- what a step must give -/
def zHy (P : mP) (S : Nat × (Nat → Int32)) (J : mH → Prop) (r0 : List Int) (m pc : Nat) (l : List (Nat × zV)) (st : List zV) (fr : List zF) (t : zT) (en : zN) (ss : List zS) : Prop := ∀ r1 l0 st0 h, zLo (r0 ++ r1) l l0 → zSt (r0 ++ r1) st st0 → zHp (r0 ++ r1) t h → zEn en (r0 ++ r1) → J h →
  ∃ (f' : mF) (h' : mH), mi_step S (mi_at P m pc) (pc, l0, st0) h = some (f', h') ∧ ∃ (l' : List (Nat × zV)) (st' : List zV) (t' : zT) (en' : zN) (r2 : List Int), (((m, f'.1, l', st') :: fr, t', en') : zS) ∈ ss ∧ zLo (r0 ++ r1 ++ r2) l' f'.2.1 ∧ zSt (r0 ++ r1 ++ r2) st' f'.2.2 ∧ zHp (r0 ++ r1 ++ r2) t' h' ∧ zEn en' (r0 ++ r1 ++ r2) ∧ J h'
section ZH
variable {P : mP} {S : Nat × (Nat → Int32)} {D : Nat} {W : zW} {J : mH → Prop} {r0 : List Int} {Q : Option Value → mH → Prop} {Ls : Bool} {nf fk : List (Nat × Nat)} {m pc : Nat} {l : List (Nat × zV)} {st : List zV} {fr : List zF} {t : zT} {en : zN} {ss : List zS}
theorem zG_of (hg : ∀ s' ∈ ss, zG P S D J r0 Q s') (hyp : zHy P S J r0 m pc l st fr t en ss) : zG P S D J r0 Q ((m, pc, l, st) :: fr, t, en) := by
  intro r1 fs h hR
  obtain ⟨⟨l0, st0, fs', rfl, hl, hst, hfr⟩, hH, hE, hs⟩ := hR
  obtain ⟨f', h', e1, l', st', t', en', r2, hm, g1, g2, g3, g4, g5⟩ := hyp r1 l0 st0 h hl hst hH hE hs
  refine mi_T_st e1 ?_
  refine hg _ hm (r1 ++ r2) ((m, f') :: fs') h' ⟨?_, ?_, ?_, g5⟩
  · rw [← List.append_assoc]
    exact ⟨f'.2.1, f'.2.2, fs', rfl, g1, g2, zFs_mono r2 hfr⟩
  · rw [← List.append_assoc]; exact g3
  · rw [← List.append_assoc]; exact g4
theorem zSt_c {r : List Int} {v : zV} {vs : List zV} {st0 : List Value} (h : zSt r (v :: vs) st0) : ∃ x st', st0 = x :: st' ∧ zR r v x ∧ zSt r vs st' := h
theorem zR_int {r : List Int} {e : zL} {x : Value} (h : zR r (.inl e) x) : ∃ i : Int32, x = .int i ∧ zE r e i.toInt := h.2
theorem zR_lng {r : List Int} {e : zL} {x : Value} (h : zR r (.inr (.inr (.inl e))) x) : ∃ i : Int64, x = .long i ∧ zE r e i.toInt := h.2
theorem zR_ref {r : List Int} {k : Nat} {x : Value} (h : zR r (.inr (.inl k)) x) : x = .ref k := h.2
theorem zR_mkI {r : List Int} {e : zL} {i : Int32} (h : zE r e i.toInt) : zR r (.inl e) (.int i) := ⟨rfl, i, rfl, h⟩
theorem zR_mkL {r : List Int} {e : zL} {i : Int64} (h : zE r e i.toInt) : zR r (.inr (.inr (.inl e))) (.long i) := ⟨rfl, i, rfl, h⟩
theorem zSt_k {r : List Int} {v : zV} {vs : List zV} {x : Value} {st' : List Value} (h : zR r v x) (h' : zSt r vs st') : zSt r (v :: vs) (x :: st') := ⟨x, st', rfl, h, h'⟩
theorem zofI {c : Int} (h1 : -2147483648 ≤ c) (h2 : c ≤ 2147483647) : (Int32.ofInt c).toInt = c := by
  rw [Int32.toInt_ofInt]
  exact zbm32 h1 h2
/-- nothing else changed -/
theorem zHy_1 {pc' : Nat} {l' : List (Nat × zV)} {st' : List zV} (hyp : ∀ r l0 st0 h, zLo r l l0 → zSt r st st0 → zEn en r → ∃ l1 st1, mi_step S (mi_at P m pc) (pc, l0, st0) h = some ((pc', l1, st1), h) ∧ zLo r l' l1 ∧ zSt r st' st1) : zHy P S J r0 m pc l st fr t en [((m, pc', l', st') :: fr, t, en)] := by
  intro r1 l0 st0 h hl hst hH hE hs
  obtain ⟨l1, st1, e, g1, g2⟩ := hyp _ l0 st0 h hl hst hE
  exact ⟨(pc', l1, st1), h, e, l', st', t, en, [], List.mem_singleton_self _, by rw [List.append_nil]; exact g1, by rw [List.append_nil]; exact g2, by rw [List.append_nil]; exact hH, by rw [List.append_nil]; exact hE, hs⟩
/-- a new value on the stack, and more known -/
theorem zHy_2 {l' : List (Nat × zV)} {st' : List zV} {en' : zN} (hyp : ∀ r l0 st0 h, zLo r l l0 → zSt r st st0 → zEn en r → ∃ l1 st1 s, mi_step S (mi_at P m pc) (pc, l0, st0) h = some ((pc + 1, l1, st1), h) ∧ zEn en' (r ++ s) ∧ zLo (r ++ s) l' l1 ∧ zSt (r ++ s) st' st1) : zHy P S J r0 m pc l st fr t en [((m, pc + 1, l', st') :: fr, t, en')] := by
  intro r1 l0 st0 h hl hst hH hE hs
  obtain ⟨l1, st1, s, e, g1, g2, g3⟩ := hyp _ l0 st0 h hl hst hE
  exact ⟨(pc + 1, l1, st1), h, e, l', st', t, en', s, List.mem_singleton_self _, g2, g3, zHp_mono s hH, g1, hs⟩
theorem zo_iconst {c : Int} (hi : mi_at P m pc = .iconst c) (h1 : -2147483648 ≤ c) (h2 : c ≤ 2147483647) (h : zx_push m pc l st fr t en (.inl (zK c)) = some ss) : zHy P S J r0 m pc l st fr t en ss := by
  cases h
  refine zHy_1 (fun r l0 st0 h hl hst hE => ⟨l0, .int (Int32.ofInt c) :: st0, by rw [hi]; rfl, hl, zSt_k (zR_mkI (by rw [zofI h1 h2]; exact zE_K)) hst⟩)
theorem zo_ldc {k : Nat} (hi : mi_at P m pc = .ldc k) (hk : k = 1 ∨ k = 2) (h : zx_push m pc l st fr t en (.inr (.inl k)) = some ss) : zHy P S J r0 m pc l st fr t en ss := by
  cases h
  refine zHy_1 (fun r l0 st0 h hl hst hE => ⟨l0, .ref k :: st0, by rw [hi]; simp only [mi_step, if_pos hk, mi_push], hl, zSt_k ⟨rfl, rfl⟩ hst⟩)
theorem zo_gets (hi : mi_at P m pc = .getstatic 0) (h : zx_push m pc l st fr t en (.inl (zK 1)) = some ss) : zHy P S J r0 m pc l st fr t en ss := by
  cases h
  refine zHy_1 (fun r l0 st0 h hl hst hE => ⟨l0, .int 1 :: st0, by rw [hi]; rfl, hl, zSt_k (zR_mkI (e := zK 1) (i := 1) zE_K) hst⟩)
theorem zo_long {c : Nat} (hi : mi_at P m pc = .ldc2_w c) (h : zx_long m pc l st fr t en c = some ss) : zHy P S J r0 m pc l st fr t en ss := by
  unfold zx_long at h
  rw [cond_eq_ite] at h
  split at h
  · rename_i hc
    have hc := e_blt.mp hc
    cases h
    refine zHy_1 (fun r l0 st0 h hl hst hE => ⟨l0, .long (Int64.ofNat c) :: st0, by rw [hi]; rfl, hl, zSt_k (zR_mkL ?_) hst⟩)
    have : (Int64.ofNat c).toInt = c := by
      rw [show Int64.ofNat c = Int64.ofInt (c : Int) from rfl, Int64.toInt_ofInt]
      exact zbm64 (by omega) (by omega)
    rw [this]
    exact zE_K
  · rw [cond_eq_ite] at h
    split at h
    · rename_i hn hc
      have hc := e_blt.mp hc
      have hn : ¬ c < 9223372036854775808 := fun q => hn (e_blt.mpr q)
      cases h
      refine zHy_1 (fun r l0 st0 h hl hst hE => ⟨l0, .long (Int64.ofNat c) :: st0, by rw [hi]; rfl, hl, zSt_k (zR_mkL ?_) hst⟩)
      have : (Int64.ofNat c).toInt = Int.sub c 18446744073709551616 := by
        rw [show Int64.ofNat c = Int64.ofInt (c : Int) from rfl, Int64.toInt_ofInt, Int.bmod_def]
        show _ = (c : Int) - 18446744073709551616
        simp only [Int64.size]
        split <;> omega
      rw [this]
      exact zE_K
    · cases h
theorem zo_lload {i : Nat} (hi : mi_at P m pc = .lload i) (h : zx_lload m pc l st fr t en i = some ss) : zHy P S J r0 m pc l st fr t en ss := by
  unfold zx_lload at h
  split at h
  · rename_i e hl
    cases h
    refine zHy_1 (fun r l0 st0 h hl0 hst hE => ?_)
    obtain ⟨x, g1, j, rfl, g2⟩ := zLo_get hl0 hl
    exact ⟨l0, .long j :: st0, by rw [hi]; simp only [mi_step, mi_lload, g1], hl0, zSt_k (zR_mkL (znrm_ok hE.1 g2)) hst⟩
  · cases h
theorem zo_aload {i : Nat} (hi : mi_at P m pc = .aload i) (h : zx_aload m pc l st fr t en i = some ss) : zHy P S J r0 m pc l st fr t en ss := by
  unfold zx_aload at h
  split at h
  · rename_i k hl
    cases h
    refine zHy_1 (fun r l0 st0 h hl0 hst hE => ?_)
    obtain ⟨x, g1, g2⟩ := zLo_get hl0 hl
    have g2 : x = .ref k := g2
    subst g2
    exact ⟨l0, .ref k :: st0, by rw [hi]; simp only [mi_step, mi_aload, g1], hl0, zSt_k ⟨rfl, rfl⟩ hst⟩
  · cases h
theorem zo_istore {i : Nat} (hi : mi_at P m pc = .istore i) (h : zx_istore m pc l st fr t en i = some ss) : zHy P S J r0 m pc l st fr t en ss := by
  unfold zx_istore at h
  split at h
  · cases h
    refine zHy_1 (fun r l0 st0 h hl0 hst hE => ?_)
    obtain ⟨x, st1, rfl, g1, g2⟩ := zSt_c hst
    obtain ⟨j, rfl, g3⟩ := zR_int g1
    exact ⟨mi_s1 l0 i (.int j), st1, by rw [hi]; rfl, zLo_s1 hl0 g1.2, g2⟩
  · cases h
theorem zo_lstore {i : Nat} (hi : mi_at P m pc = .lstore i) (h : zx_lstore m pc l st fr t en i = some ss) : zHy P S J r0 m pc l st fr t en ss := by
  unfold zx_lstore at h
  split at h
  · cases h
    refine zHy_1 (fun r l0 st0 h hl0 hst hE => ?_)
    obtain ⟨x, st1, rfl, g1, g2⟩ := zSt_c hst
    obtain ⟨j, rfl, g3⟩ := zR_lng g1
    exact ⟨mi_s2 l0 i (.long j), st1, by rw [hi]; rfl, zLo_s2 hl0 g1.2, g2⟩
  · cases h
theorem zo_astore {i : Nat} (hi : mi_at P m pc = .astore i) (h : zx_astore m pc l st fr t en i = some ss) : zHy P S J r0 m pc l st fr t en ss := by
  unfold zx_astore at h
  split at h
  · cases h
    refine zHy_1 (fun r l0 st0 h hl0 hst hE => ?_)
    obtain ⟨x, st1, rfl, g1, g2⟩ := zSt_c hst
    have g3 := zR_ref g1
    subst g3
    exact ⟨mi_s1 l0 i (.ref _), st1, by rw [hi]; rfl, zLo_s1 hl0 g1.2, g2⟩
  · cases h
theorem zo_iinc {i : Nat} {c : Int} (hi : mi_at P m pc = .iinc i c) (h : zx_iinc m pc l st fr t en i c = some ss) : zHy P S J r0 m pc l st fr t en ss := by
  unfold zx_iinc at h
  split at h
  · rename_i e hl
    rw [cond_eq_ite] at h
    split at h
    · rename_i hc
      rw [Bool.and_eq_true, zle_iff, zle_iff] at hc
      cases h
      refine zHy_2 (fun r l0 st0 h hl0 hst hE => ?_)
      obtain ⟨x, g1, j, rfl, g2⟩ := zLo_get hl0 hl
      obtain ⟨s, q1, q2⟩ := zi_add_ok (x := j) (y := Int32.ofInt c) hE (znrm_ok hE.1 g2) (by rw [zofI hc.1 hc.2]; exact zE_K)
      exact ⟨mi_s1 l0 i (.int (j + Int32.ofInt c)), st0, s, by rw [hi]; simp only [mi_step, mi_iinc, g1], q1, zLo_s1 (zLo_mono s hl0) ⟨_, rfl, q2⟩, zSt_mono s hst⟩
    · cases h
  · cases h
def zop2c (i : Instr) (x y : Int32) : Option Int32 := match i with
  | .iadd => some (x + y)
  | .isub => some (x - y)
  | .imul => some (x * y)
  | .iand => some (x &&& y)
  | .ior => some (x ||| y)
  | .ishl => some (x <<< (y &&& 31))
  | .ishr => some (x >>> (y &&& 31))
  | .iushr => some (x.toUInt32 >>> (y.toUInt32 &&& Int32.toUInt32 31)).toInt32
  | .idiv => if y = 0 then none else some (x / y)
  | .irem => if y = 0 then none else some (x - x / y * y)
  | _ => none
theorem zop2_ok {i : Instr} {a b : zL} {q : zL × zN} {r : List Int} {x y : Int32} (h : zop2 i en a b = some q) (hE : zEn en r) (ha : zE r a x.toInt) (hb : zE r b y.toInt) : (∀ f h, mi_step S i f h = mi_ii (zop2c i) f h) ∧ ∃ z, zop2c i x y = some z ∧ zRs r q z.toInt := by
  unfold zop2 at h
  split at h
  · cases h; exact ⟨fun _ _ => rfl, _, rfl, zi_add_ok hE ha hb⟩
  · cases h; exact ⟨fun _ _ => rfl, _, rfl, zi_sub_ok hE ha hb⟩
  · cases h; exact ⟨fun _ _ => rfl, _, rfl, zi_mul_ok hE ha hb⟩
  · cases h; exact ⟨fun _ _ => rfl, _, rfl, zi_and_ok hE ha hb⟩
  · cases h; exact ⟨fun _ _ => rfl, _, rfl, zi_or_ok hE ha hb⟩
  · cases h; exact ⟨fun _ _ => rfl, _, rfl, zi_shl_ok hE ha hb⟩
  · rw [cond_eq_ite] at h
    split at h
    · rename_i hb0
      cases h
      have hb0 := zeqL_eq hb0
      subst hb0
      have hy : y = 0 := Int32.toInt_inj.mp (by rw [zE_Kx hb]; rfl)
      subst hy
      refine ⟨fun _ _ => rfl, _, rfl, ?_⟩
      have e : x >>> ((0 : Int32) &&& 31) = x := by
        rw [show ((0 : Int32) &&& 31) = 0 from rfl]
        first | exact Int32.shiftRight_zero | simp
      rw [e]
      exact zid_ok hE ha
    · cases h; exact ⟨fun _ _ => rfl, _, rfl, zi_shr_ok hE ha hb⟩
  · cases h; exact ⟨fun _ _ => rfl, _, rfl, zai_ok hE _⟩
  · obtain ⟨h1, h2⟩ := zi_div_ok hE ha hb h
    exact ⟨fun _ _ => rfl, _, by simp only [zop2c, if_neg h1], h2⟩
  · obtain ⟨h1, h2⟩ := zi_rem_ok hE ha hb h
    exact ⟨fun _ _ => rfl, _, by simp only [zop2c, if_neg h1], h2⟩
  · cases h
theorem zo_bin {i : Instr} (hi : mi_at P m pc = i) (h : zx_bin m pc l st fr t en i = some ss) : zHy P S J r0 m pc l st fr t en ss := by
  unfold zx_bin at h
  split at h
  · split at h
    · rename_i q hq
      cases h
      refine zHy_2 (fun r l0 st0 h hl0 hst hE => ?_)
      obtain ⟨x, st1, rfl, g1, g2⟩ := zSt_c hst
      obtain ⟨y, rfl, g3⟩ := zR_int g1
      obtain ⟨x', st2, rfl, g4, g5⟩ := zSt_c g2
      obtain ⟨x, rfl, g6⟩ := zR_int g4
      obtain ⟨hs, z, hz, s, q1, q2⟩ := zop2_ok (S := S) hq hE g6 g3
      exact ⟨l0, .int z :: st2, s, by rw [hi, hs]; simp only [mi_ii, hz], q1, zLo_mono s hl0, zSt_k (zR_mkI q2) (zSt_mono s g5)⟩
    · cases h
  · cases h
def zoplc (i : Instr) (x y : Int64) : Option Value := match i with
  | .lsub => some (.long (x - y))
  | .lmul => some (.long (x * y))
  | .lor => some (.long (x ||| y))
  | .ldiv => if y = 0 then none else some (.long (x / y))
  | .lrem => if y = 0 then none else some (.long (x - x / y * y))
  | _ => none
theorem zopl_ok {i : Instr} {a b : zL} {q : zL × zN} {r : List Int} {x y : Int64} (h : zopl i en a b = some q) (hE : zEn en r) (ha : zE r a x.toInt) (hb : zE r b y.toInt) : (∀ f h, mi_step S i f h = mi_ll (zoplc i) f h) ∧ ∃ z : Int64, zoplc i x y = some (.long z) ∧ zRs r q z.toInt := by
  unfold zopl at h
  split at h
  · cases h; exact ⟨fun _ _ => rfl, _, rfl, zl_sub_ok hE ha hb⟩
  · cases h; exact ⟨fun _ _ => rfl, _, rfl, zl_mul_ok hE ha hb⟩
  · cases h; exact ⟨fun _ _ => rfl, _, rfl, zal_ok hE _⟩
  · obtain ⟨h1, h2⟩ := zl_div_ok (u := x) hE hb h
    exact ⟨fun _ _ => rfl, _, by simp only [zoplc, if_neg h1], h2⟩
  · obtain ⟨h1, h2⟩ := zl_rem_ok hE ha hb h
    exact ⟨fun _ _ => rfl, _, by simp only [zoplc, if_neg h1], h2⟩
  · cases h
theorem zo_lbin {i : Instr} (hi : mi_at P m pc = i) (h : zx_lbin m pc l st fr t en i = some ss) : zHy P S J r0 m pc l st fr t en ss := by
  unfold zx_lbin at h
  split at h
  · split at h
    · rename_i q hq
      cases h
      refine zHy_2 (fun r l0 st0 h hl0 hst hE => ?_)
      obtain ⟨x, st1, rfl, g1, g2⟩ := zSt_c hst
      obtain ⟨y, rfl, g3⟩ := zR_lng g1
      obtain ⟨x', st2, rfl, g4, g5⟩ := zSt_c g2
      obtain ⟨x, rfl, g6⟩ := zR_lng g4
      obtain ⟨hs, z, hz, s, q1, q2⟩ := zopl_ok (S := S) hq hE g6 g3
      exact ⟨l0, .long z :: st2, s, by rw [hi, hs]; simp only [mi_ll, hz], q1, zLo_mono s hl0, zSt_k (zR_mkL q2) (zSt_mono s g5)⟩
    · cases h
  · cases h
theorem zo_lshl (hi : mi_at P m pc = .lshl) (h : zx_lshl m pc l st fr t en = some ss) : zHy P S J r0 m pc l st fr t en ss := by
  unfold zx_lshl at h
  split at h
  · cases h
    refine zHy_2 (fun r l0 st0 h hl0 hst hE => ?_)
    obtain ⟨x, st1, rfl, g1, g2⟩ := zSt_c hst
    obtain ⟨y, rfl, g3⟩ := zR_int g1
    obtain ⟨x', st2, rfl, g4, g5⟩ := zSt_c g2
    obtain ⟨x, rfl, g6⟩ := zR_lng g4
    obtain ⟨s, q1, q2⟩ := zal_ok hE (x <<< (y.toInt64 &&& 63))
    exact ⟨l0, _, s, by rw [hi]; rfl, q1, zLo_mono s hl0, zSt_k (zR_mkL q2) (zSt_mono s g5)⟩
  · cases h
theorem zo_i2l (hi : mi_at P m pc = .i2l) (h : zx_i2l m pc l st fr t en = some ss) : zHy P S J r0 m pc l st fr t en ss := by
  unfold zx_i2l at h
  split at h
  · cases h
    refine zHy_1 (fun r l0 st0 h hl0 hst hE => ?_)
    obtain ⟨x, st1, rfl, g1, g2⟩ := zSt_c hst
    obtain ⟨y, rfl, g3⟩ := zR_int g1
    exact ⟨l0, .long y.toInt64 :: st1, by rw [hi]; rfl, hl0, zSt_k (zR_mkL (by rw [Int32.toInt_toInt64]; exact g3)) g2⟩
  · cases h
theorem zo_nar {lo hi' : Int} {g : Int32 → Int32} (hi : ∀ f h, mi_step S (mi_at P m pc) f h = mi_i1 (fun x => .int (g x)) f h) (hg : ∀ x : Int32, lo ≤ (g x).toInt ∧ (g x).toInt ≤ hi' ∧ (lo ≤ x.toInt → x.toInt ≤ hi' → (g x).toInt = x.toInt)) (h : zx_nar m pc l st fr t en lo hi' = some ss) : zHy P S J r0 m pc l st fr t en ss := by
  unfold zx_nar at h
  split at h
  · cases h
    refine zHy_2 (fun r l0 st0 h hl0 hst hE => ?_)
    obtain ⟨x, st1, rfl, g1, g2⟩ := zSt_c hst
    obtain ⟨y, rfl, g3⟩ := zR_int g1
    obtain ⟨s, q1, q2⟩ := zex_ok hE g3 (hg y).1 (hg y).2.1 (hg y).2.2
    exact ⟨l0, .int (g y) :: st1, s, by rw [hi]; rfl, q1, zLo_mono s hl0, zSt_k (zR_mkI q2) (zSt_mono s g2)⟩
  · cases h
theorem zo_dup (hi : mi_at P m pc = .dup) (h : zx_dup m pc l st fr t en = some ss) : zHy P S J r0 m pc l st fr t en ss := by
  unfold zx_dup at h
  split at h
  · rw [cond_eq_ite] at h
    split at h
    · rename_i hc
      have hc := Nat.eq_of_beq_eq_true hc
      cases h
      refine zHy_1 (fun r l0 st0 h hl0 hst hE => ?_)
      obtain ⟨x, st1, rfl, g1, g2⟩ := zSt_c hst
      exact ⟨l0, x :: x :: st1, by rw [hi]; simp only [mi_step, mi_dup, zR_cat g1, hc, if_true], hl0, zSt_k g1 (zSt_k g1 g2)⟩
    · cases h
  · cases h
theorem zo_dup2 (hi : mi_at P m pc = .dup2) (h : zx_dup2 m pc l st fr t en = some ss) : zHy P S J r0 m pc l st fr t en ss := by
  unfold zx_dup2 at h
  split at h
  · rw [cond_eq_ite] at h
    split at h
    · rename_i hc
      rw [Bool.and_eq_true] at hc
      have hc1 := Nat.eq_of_beq_eq_true hc.1
      have hc2 := Nat.eq_of_beq_eq_true hc.2
      cases h
      refine zHy_1 (fun r l0 st0 h hl0 hst hE => ?_)
      obtain ⟨x, st1, rfl, g1, g2⟩ := zSt_c hst
      obtain ⟨y, st2, rfl, g3, g4⟩ := zSt_c g2
      exact ⟨l0, x :: y :: x :: y :: st2, by rw [hi]; simp only [mi_step, mi_dup2, zR_cat g1, zR_cat g3, hc1, hc2, and_self, if_true], hl0, zSt_k g1 (zSt_k g3 (zSt_k g1 (zSt_k g3 g4)))⟩
    · cases h
  · cases h
theorem zo_pop (hi : mi_at P m pc = .pop) (h : zx_pop m pc l st fr t en 1 = some ss) : zHy P S J r0 m pc l st fr t en ss := by
  unfold zx_pop at h
  split at h
  · rw [cond_eq_ite] at h
    split at h
    · rename_i hc
      have hc := Nat.eq_of_beq_eq_true hc
      cases h
      refine zHy_1 (fun r l0 st0 h hl0 hst hE => ?_)
      obtain ⟨x, st1, rfl, g1, g2⟩ := zSt_c hst
      exact ⟨l0, st1, by rw [hi]; simp only [mi_step, mi_pop, zR_cat g1, hc, if_true], hl0, g2⟩
    · cases h
  · cases h
theorem zo_pop2 (hi : mi_at P m pc = .pop2) (h : zx_pop m pc l st fr t en 2 = some ss) : zHy P S J r0 m pc l st fr t en ss := by
  unfold zx_pop at h
  split at h
  · rw [cond_eq_ite] at h
    split at h
    · rename_i hc
      have hc := Nat.eq_of_beq_eq_true hc
      cases h
      refine zHy_1 (fun r l0 st0 h hl0 hst hE => ?_)
      obtain ⟨x, st1, rfl, g1, g2⟩ := zSt_c hst
      exact ⟨l0, st1, by rw [hi]; simp only [mi_step, mi_pop2, zR_cat g1, hc, if_true], hl0, g2⟩
    · cases h
  · cases h
end ZH
