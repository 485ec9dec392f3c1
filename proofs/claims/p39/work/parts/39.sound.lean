/-! reading and writing of cells -/
section ZJ
variable {P : mP} {S : Nat × (Nat → Int32)} {D : Nat} {W : zW} {J : mH → Prop} {r0 : List Int} {Q : Option Value → mH → Prop} {Ls : Bool} {nf fk : List (Nat × Nat)} {m pc : Nat} {l : List (Nat × zV)} {st : List zV} {fr : List zF} {t : zT} {en : zN} {ss : List zS}
theorem zK_obj {r : List Int} {c : zC} {mm : mC} {ci : Nat} (hK : zKc r c mm) (h : c.1 = ci + 100) : ∃ fs, mm = .inr (ci, fs) ∧ fs.length = c.2.1 := by
  obtain ⟨h1, h2, -, -⟩ := hK
  match mm, h1, h2 with
  | .inl (tt, n, .inl g), h1, h2 => exfalso; simp only [zwf] at h1; simp only [zknd, Prod.mk.injEq] at h2; omega
  | .inl (tt, n, .inr (.inl g)), h1, h2 => exfalso; simp only [zwf] at h1; simp only [zknd, Prod.mk.injEq] at h2; omega
  | .inl (tt, n, .inr (.inr g)), h1, h2 => exfalso; simp only [zwf] at h1; simp only [zknd, Prod.mk.injEq] at h2; omega
  | .inr (cj, fs), h1, h2 =>
    simp only [zknd, Prod.mk.injEq] at h2
    have : cj = ci := by omega
    subst this
    exact ⟨fs, rfl, h2.2⟩
theorem zK_arr {r : List Int} {c : zC} {mm : mC} (hK : zKc r c mm) (h : c.1 < 5) : ∃ g, mm = .inl (c.1, c.2.1, g) ∧ ((c.1 < 3 → ∃ f, g = .inl f) ∧ (c.1 = 3 → ∃ f, g = .inr (.inl f)) ∧ (c.1 = 4 → ∃ f, g = .inr (.inr f))) := by
  obtain ⟨h1, h2, -, -⟩ := hK
  match mm, h1, h2 with
  | .inl (tt, n, .inl g), h1, h2 =>
    simp only [zwf] at h1
    simp only [zknd, Prod.mk.injEq] at h2
    refine ⟨.inl g, by rw [h2.1, h2.2], fun _ => ⟨g, rfl⟩, fun q => by omega, fun q => by omega⟩
  | .inl (tt, n, .inr (.inl g)), h1, h2 =>
    simp only [zwf] at h1
    simp only [zknd, Prod.mk.injEq] at h2
    refine ⟨.inr (.inl g), by rw [h2.1, h2.2], fun q => by omega, fun _ => ⟨g, rfl⟩, fun q => by omega⟩
  | .inl (tt, n, .inr (.inr g)), h1, h2 =>
    simp only [zwf] at h1
    simp only [zknd, Prod.mk.injEq] at h2
    refine ⟨.inr (.inr g), by rw [h2.1, h2.2], fun q => by omega, fun q => by omega, fun _ => ⟨g, rfl⟩⟩
  | .inr (cj, fs), h1, h2 => exfalso; simp only [zknd, Prod.mk.injEq] at h2; omega
theorem zK_ints {r : List Int} {c : zC} {mm : mC} (hK : zKc r c mm) (h : c.1 < 3) : ∃ g, mm = .inl (c.1, c.2.1, .inl g) := by
  obtain ⟨g, e, h1, -⟩ := zK_arr hK (by omega)
  obtain ⟨f, rfl⟩ := h1 h
  exact ⟨f, e⟩
theorem zidx_ok {r : List Int} {e : zL} {n : Nat} {i : Int32} (hE : zEn en r) (h : zidx en e n = true) (he : zE r e i.toInt) : mi_ix i n = true ∧ (i.toNatClampNeg : Int) = i.toInt ∧ i.toNatClampNeg < n ∧ 0 ≤ i.toInt ∧ i.toInt < n := by
  unfold zidx at h
  rw [Bool.and_eq_true] at h
  have h1 := zEn_pr hE h.1 (zE_neg he)
  have h2 := zEn_pr hE h.2 (zE_ac he)
  have e1 : Int.sub 1 (n : Int) = 1 - n := rfl
  rw [e1] at h2
  have h3 : i.toNatClampNeg = i.toInt.toNat := rfl
  refine ⟨?_, by omega, by omega, by omega, by omega⟩
  unfold mi_ix
  rw [Bool.and_eq_true, decide_eq_true_eq, decide_eq_true_eq]
  exact ⟨by omega, by omega⟩
theorem zo_txt {q : Nat} (hi : mi_at P m pc = .getfield q) (h13 : q / 128 = 13) (h : zx_txt m pc l st fr t en q = some ss) : zHy P S J r0 m pc l st fr t en ss := by
  unfold zx_txt at h
  split at h
  · rename_i k st'
    rw [cond_eq_ite] at h
    split at h
    · rename_i hk
      rw [Bool.or_eq_true] at hk
      have hk : k = 1 ∨ k = 2 := hk.imp Nat.eq_of_beq_eq_true Nat.eq_of_beq_eq_true
      rw [cond_eq_ite] at h
      split at h
      · rename_i hq
        have hq := Nat.eq_of_beq_eq_true hq
        cases h
        refine zHy_1 (fun r l0 st0 h hl0 hst hE => ?_)
        obtain ⟨x, st1, rfl, g1, g2⟩ := zSt_c hst
        have := zR_ref g1
        subst this
        exact ⟨l0, .ref (k + 2) :: st1, by rw [hi]; simp only [mi_step, if_pos h13, mi_txt, if_pos hk, hq, if_true], hl0, zSt_k ⟨rfl, rfl⟩ g2⟩
      · rw [cond_eq_ite] at h
        split at h
        · rename_i hq0 hq
          have hq := Nat.eq_of_beq_eq_true hq
          cases h
          refine zHy_1 (fun r l0 st0 h hl0 hst hE => ?_)
          obtain ⟨x, st1, rfl, g1, g2⟩ := zSt_c hst
          have := zR_ref g1
          subst this
          refine ⟨l0, .int 0 :: st1, ?_, hl0, zSt_k (zR_mkI (e := zK 0) (i := 0) zE_K) g2⟩
          rw [hi]
          simp only [mi_step, if_pos h13, mi_txt, if_pos hk, hq]
          rfl
        · cases h
    · cases h
  · cases h
theorem zo_getf {q : Nat} (hi : mi_at P m pc = .getfield q) (h13 : ¬ q / 128 = 13) (h : zx_getf fk m pc l st fr t en q = some ss) : zHy P S J r0 m pc l st fr t en ss := by
  unfold zx_getf at h
  split at h
  · rename_i k st'
    split at h
    · rename_i c hc
      rw [cond_eq_ite] at h
      split at h
      · rename_i hq
        rw [Bool.and_eq_true] at hq
        have hq1 := Nat.eq_of_beq_eq_true hq.1
        have hq2 := e_blt.mp hq.2
        have key : ∀ (r : List Int) l0 st0 (hh : mH), zSt r (.inr (.inl k) :: st') st0 → zHp r t hh → ∃ mm x st1, mi_c hh k = some mm ∧ zKc r c mm ∧ st0 = .ref k :: st1 ∧ zSt r st' st1 ∧ zslot mm (q % 128 : Nat) = some x ∧ mi_step S (mi_at P m pc) (pc, l0, st0) hh = some ((pc + 1, l0, x :: st1), hh) := by
          intro r l0 st0 hh hst hH
          obtain ⟨x, st1, rfl, g1, g2⟩ := zSt_c hst
          have := zR_ref g1
          subst this
          obtain ⟨mm, e1, hK⟩ := hH k c hc
          obtain ⟨fs, rfl, hlen⟩ := zK_obj hK hq1
          have hx : fs[q % 128]? = some fs[q % 128] := List.getElem?_eq_getElem (by omega)
          refine ⟨_, fs[q % 128], st1, e1, hK, rfl, g2, ?_, ?_⟩
          · simp only [zslot]
            rw [if_pos (by omega), show ((q % 128 : Nat) : Int).toNat = q % 128 by omega, hx]
          · rw [hi]
            simp only [mi_step, if_neg h13, mi_getf, e1, if_true, hx]
        cases hld : zld en c (zK (Int.ofNat (q % 128))) with
        | nil => rw [hld] at h; cases h
        | cons a b =>
          rw [hld] at h
          simp only at h
          have hne : zld en c (zK (Int.ofNat (q % 128))) ≠ [] := by rw [hld]; simp
          rw [cond_eq_ite] at h
          split at h
          · split at h
            · rename_i e hae
              split at h
              · rename_i w hw
                cases h
                intro r1 l0 st0 hh hl hst hH hE hs
                obtain ⟨mm, x, st1, e1, hK, rfl, g2, hx, hstep⟩ := key _ l0 st0 hh hst hH
                obtain ⟨p, hp, s, f1, f2, f3, f4⟩ := zld_ok hE hK (zE_K (c := Int.ofNat (q % 128))) hx hne
                rw [hld] at hp
                have := List.mem_singleton.mp hp
                subst this
                rw [hae] at f3
                obtain ⟨i, rfl, g5⟩ := f3
                obtain ⟨pq, hpq, e5, hE'⟩ := zfork_ok f1 g5 hw
                exact ⟨_, hh, hstep, l, .inl (zK pq.1) :: st', zset t k p.2.1, pq.2, s, List.mem_map.mpr ⟨pq, hpq, rfl⟩, zLo_mono s hl, zSt_k (zR_mkI (by rw [e5]; exact zE_K)) (zSt_mono s g2), zHp_c (zHp_mono s hH) e1 f2, hE', hs⟩
              · cases h
            · cases h
          · cases h
            intro r1 l0 st0 hh hl hst hH hE hs
            obtain ⟨mm, x, st1, e1, hK, rfl, g2, hx, hstep⟩ := key _ l0 st0 hh hst hH
            obtain ⟨p, hp, s, f1, f2, f3, f4⟩ := zld_ok hE hK (zE_K (c := Int.ofNat (q % 128))) hx hne
            rw [hld] at hp
            have f5 : zR (r0 ++ r1 ++ s) p.1 x := by
              refine ⟨f4, ?_⟩
              match hv : p.1, f3, f4 with
              | .inl e, f3, _ => exact f3
              | .inr (.inl k), f3, _ => exact f3
              | .inr (.inr (.inl e)), f3, _ => exact f3
              | .inr (.inr (.inr pp)), _, f4 => cases f4
            exact ⟨_, hh, hstep, l, p.1 :: st', zset t k p.2.1, p.2.2, s, List.mem_map.mpr ⟨p, hp, rfl⟩, zLo_mono s hl, zSt_k f5 (zSt_mono s g2), zHp_c (zHp_mono s hH) e1 f2, f1, hs⟩
      · cases h
    · cases h
  · cases h
theorem zfit_ok {r : List Int} {ty : FieldType} {v : zV} {x : Value} (hE : zEn en r) (h : zfit en ty v = true) (hx : zR r v x) : mi_fit ty x = true := by
  unfold zfit at h
  split at h
  · split at h
    · obtain ⟨i, rfl, -⟩ := zR_int hx; rfl
    · cases h
  · split at h
    · obtain ⟨i, rfl, g⟩ := zR_int hx
      have := zin_ok hE h g
      simp only [mi_fit, Bool.or_eq_true, beq_iff_eq]
      rcases (by omega : i.toInt = 0 ∨ i.toInt = 1) with q | q
      · exact Or.inl (Int32.toInt_inj.mp q)
      · exact Or.inr (Int32.toInt_inj.mp q)
    · cases h
  · split at h
    · obtain ⟨i, rfl, -⟩ := zR_lng hx; rfl
    · cases h
  · split at h
    · have := zR_ref hx; subst this; rfl
    · cases h
  · split at h
    · have := zR_ref hx; subst this; rfl
    · cases h
  · cases h
theorem zR_Q {r : List Int} {v : zV} {x : Value} {j : Int} (h : zR r v x) : zQ r v j x := by
  match v, h with
  | .inl e, ⟨_, h⟩ => exact h
  | .inr (.inl k), ⟨_, h⟩ => exact h
  | .inr (.inr (.inl e)), ⟨_, h⟩ => exact h
  | .inr (.inr (.inr p)), ⟨h, _⟩ => cases h
theorem zo_putf {q : Nat} (hJ : ∀ h h', J h → zsm W h h' → J h') (hi : mi_at P m pc = .putfield q) (h : zx_putf W m pc l st fr t en q = some ss) : zHy P S J r0 m pc l st fr t en ss := by
  unfold zx_putf at h
  split at h
  · rename_i v k st'
    split at h
    · rename_i c hc
      rw [cond_eq_ite] at h
      split at h
      · rename_i hq
        simp only [Bool.and_eq_true] at hq
        obtain ⟨hq1, hq2, hq3, hq4, hq5⟩ := hq
        have hq1 := Nat.eq_of_beq_eq_true hq1
        have hq2 := e_blt.mp hq2
        cases h
        intro r1 l0 st0 hh hl hst hH hE hs
        obtain ⟨x, st1, rfl, g1, g2⟩ := zSt_c hst
        obtain ⟨y, st2, rfl, g3, g4⟩ := zSt_c g2
        have := zR_ref g3
        subst this
        obtain ⟨mm, e1, hK⟩ := hH k c hc
        obtain ⟨fs, rfl, hlen⟩ := zK_obj hK hq1
        have hfit := zfit_ok hE hq3 g1
        have hlt : q % 128 < fs.length := by omega
        have hstep : mi_step S (mi_at P m pc) (pc, l0, x :: Value.ref k :: st2) hh = some ((pc + 1, l0, st2), mi_w hh k (.inr (q / 128, fs.set (q % 128) x))) := by
          rw [hi]
          simp only [mi_step, mi_putf, e1, hlt, hfit, and_self, if_true]
        have hslot := fun i => zslot_fs (ci := q / 128) (fs := fs) (y := x) hlt i
        have hn : zknd (.inr (q / 128, fs.set (q % 128) x)) = zknd (.inr (q / 128, fs)) := by simp [zknd]
        refine ⟨_, _, hstep, l, st', _, en, [], List.mem_singleton_self _, ?_, ?_, ?_, ?_, ?_⟩
        · rw [List.append_nil]; exact hl
        · rw [List.append_nil]; exact g4
        · rw [List.append_nil]
          refine zHp_w hH e1 (zsto_ok (j := ((q % 128 : Nat) : Int)) hE hK zE_K hn id hslot (zR_Q g1) ?_)
          exact zpin_ok hE hq5 (zR_Q g1) zE_K
        · rw [List.append_nil]; exact hE
        · refine hJ _ _ hs (zsm_w (j := q % 128) e1 hn rfl id (fun i hne => ?_) hq4)
          rw [hslot, if_neg (by omega)]
      · cases h
    · cases h
  · cases h
end ZJ
