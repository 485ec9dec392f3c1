/-! a step of the executor -/
section EQ
variable {P : mP} {S : Nat × (Nat → Int32)} {D m pc : Nat} {l : List (Nat × eV)} {st : List eV} {fr : List eF} {n : Nat} {t : eTr} {en : eEn} {ss : List eS}
theorem eG_of (hg : ∀ s' ∈ ss, eG P S D s') (hyp : ∀ l0 st0 h, eLo S.2 l l0 → eSt S.2 st st0 → eHp S.2 n t h → eEv S.2 en → ∃ (f' : mF) (h' : mH) (l' : List (Nat × eV)) (st' : List eV) (n' : Nat) (t' : eTr) (en' : eEn), mi_step S (mi_at P m pc) (pc, l0, st0) h = some (f', h') ∧ (((m, f'.1, l', st') :: fr, n', t', en') : eS) ∈ ss ∧ eLo S.2 l' f'.2.1 ∧ eSt S.2 st' f'.2.2 ∧ eHp S.2 n' t' h' ∧ eEv S.2 en') : eG P S D ((m, pc, l, st) :: fr, n, t, en) := by
  intro fs h hr
  obtain ⟨⟨l0, st0, fs', rfl, hl, hst, hfs⟩, hH, hE⟩ := hr
  obtain ⟨f', h', l', st', n', t', en', e1, e2, e3, e4, e5, e6⟩ := hyp l0 st0 h hl hst hH hE
  have k := hg _ e2 ((m, f') :: fs') h' ⟨⟨f'.2.1, f'.2.2, fs', rfl, e3, e4, hfs⟩, e5, e6⟩
  exact mi_T_st e1 k
/-- one road: frame and cells as they are but for locals and stack -/
theorem eG_1 {l' : List (Nat × eV)} {st' : List eV} {pc' : Nat} (hg : ∀ s' ∈ ([((m, pc', l', st') :: fr, n, t, en)] : List eS), eG P S D s') (hyp : ∀ l0 st0 h, eLo S.2 l l0 → eSt S.2 st st0 → eHp S.2 n t h → eEv S.2 en → ∃ l1 st1, mi_step S (mi_at P m pc) (pc, l0, st0) h = some ((pc', l1, st1), h) ∧ eLo S.2 l' l1 ∧ eSt S.2 st' st1) : eG P S D ((m, pc, l, st) :: fr, n, t, en) :=
  eG_of hg (fun l0 st0 h hl hst hH hE => by
    obtain ⟨l1, st1, e1, e2, e3⟩ := hyp l0 st0 h hl hst hH hE
    exact ⟨(pc', l1, st1), h, l', st', n, t, en, e1, List.mem_singleton_self _, e2, e3, hH, hE⟩)
theorem eG_sub {s : eS} (hg : ∀ s' ∈ ss, eG P S D s') (hyp : ∀ fs h, eRS S.2 s fs h → ∃ s' ∈ ss, eRS S.2 s' fs h) : eG P S D s := by
  intro fs h hr
  obtain ⟨s', h1, h2⟩ := hyp fs h hr
  exact hg s' h1 fs h h2
theorem eK_int {xs : Nat → Int32} {ce : eC} {c : mC} (hK : eK xs ce c) (h : ce.1 < 3) : ∃ g, c = .inl (ce.1, ce.2.1, .inl g) ∧ ∀ j v, elk ce j = some v → eR xs v (.int (g j)) := by
  rcases hK with q | q
  · omega
  · rcases c with ⟨t, n, g | g | g⟩ | ⟨ci, fs⟩
    · obtain ⟨h1, h2, h3, h4⟩ := q
      exact ⟨g, by rw [h1, h3], h4⟩
    · obtain ⟨h1, h2, h3, h4⟩ := q; omega
    · obtain ⟨h1, h2, h3, h4⟩ := q; omega
    · obtain ⟨h1, h2, h3⟩ := q; omega
theorem eK_refs {xs : Nat → Int32} {ce : eC} {c : mC} (hK : eK xs ce c) (h : ce.1 = 4) : ∃ g, c = .inl (4, ce.2.1, .inr (.inr g)) ∧ ∀ j v, elk ce j = some v → ∃ r, g j = some r ∧ eR xs v (.ref r) := by
  rcases hK with q | q
  · omega
  · rcases c with ⟨t, n, g | g | g⟩ | ⟨ci, fs⟩
    · obtain ⟨h1, h2, h3, h4⟩ := q; omega
    · obtain ⟨h1, h2, h3, h4⟩ := q; omega
    · obtain ⟨h1, h2, h3, h4⟩ := q
      exact ⟨g, by rw [h2, h3], h4⟩
    · obtain ⟨h1, h2, h3⟩ := q; omega
theorem eK_obj {xs : Nat → Int32} {ce : eC} {c : mC} {ci : Nat} (hK : eK xs ce c) (h : ce.1 = ci + 100) : ∃ fs, c = .inr (ci, fs) ∧ ce.2.1 = fs.length ∧ ∀ j v, elk ce j = some v → ∃ x, fs[j]? = some x ∧ eR xs v x := by
  rcases hK with q | q
  · omega
  · rcases c with ⟨t, n, g | g | g⟩ | ⟨cj, fs⟩
    · obtain ⟨h1, h2, h3, h4⟩ := q; omega
    · obtain ⟨h1, h2, h3, h4⟩ := q; omega
    · obtain ⟨h1, h2, h3, h4⟩ := q; omega
    · obtain ⟨h1, h2, h3⟩ := q
      have : cj = ci := by omega
      subst this
      exact ⟨fs, rfl, h2, h3⟩
theorem eK_arr {xs : Nat → Int32} {ce : eC} {c : mC} (hK : eK xs ce c) (h : ce.1 < 5) : ∃ g, c = .inl (ce.1, ce.2.1, g) := by
  rcases hK with q | q
  · omega
  · rcases c with ⟨t, n, g | g | g⟩ | ⟨ci, fs⟩
    · obtain ⟨h1, h2, h3, h4⟩ := q; exact ⟨.inl g, by rw [h1, h3]⟩
    · obtain ⟨h1, h2, h3, h4⟩ := q; exact ⟨.inr (.inl g), by rw [h1, h3]⟩
    · obtain ⟨h1, h2, h3, h4⟩ := q; exact ⟨.inr (.inr g), by rw [h1, h3]⟩
    · obtain ⟨h1, h2, h3⟩ := q; omega
theorem eix {y : Int32} {c k : Nat} (hc : eb y = c) (h1 : 2147483648 ≤ c) (h2 : c - 2147483648 < k) : mi_ix y k = true ∧ y.toNatClampNeg = c - 2147483648 := by
  subst hc
  refine ⟨?_, eb_clamp h1⟩
  have h3 := eb_int y
  simp only [mi_ix, Bool.and_eq_true, decide_eq_true_eq]
  omega
theorem eplace_ok {kd : Nat → Bool} {k c j : Nat} {ce : eC} (h : eplace kd t k c = some (ce, j)) : eget t k = some ce ∧ kd ce.1 = true ∧ 2147483648 ≤ c ∧ c - 2147483648 < ce.2.1 ∧ c - 2147483648 = j := by
  unfold eplace at h
  split at h
  · rename_i ce' hg
    simp only [cond_eq_ite, Bool.and_eq_true] at h
    split at h
    · rename_i hq
      cases h
      exact ⟨hg, hq.1, e_ble.mp hq.2.1, e_blt.mp hq.2.2, rfl⟩
    · cases h
  · cases h
/-- a place of an array of ints, bytes or booleans is written -/
theorem eK_upd {xs : Nat → Int32} {ce : eC} {g : Nat → Int32} {j : Nat} {v : eV} {y : Int32} (h3 : ce.1 < 3) (hK : ∀ j v, elk ce j = some v → eR xs v (.int (g j))) (hv : eR xs v (.int y)) : eK xs (ce.1, ce.2.1, ce.2.2.1, eput ce.2.2.2 j v) (.inl (ce.1, ce.2.1, .inl (upd g j y))) := by
  refine Or.inr ⟨rfl, h3, rfl, fun k w hk => ?_⟩
  rw [elk_put] at hk
  unfold upd
  by_cases hj : j = k
  · subst hj
    rw [if_pos rfl] at hk ⊢
    cases hk
    exact hv
  · rw [if_neg hj] at hk
    rw [if_neg (fun q => hj q.symm)]
    exact hK k w hk
theorem esplit_ok {v : eV} (hg : ∀ s' ∈ ss, eG P S D s') {F : List eF} (h : esplit F n t en v = some ss) : eG P S D (F, n, t, en) := by
  unfold esplit at h
  split at h
  · rename_i i
    split at h
    · rename_i lo hi hq
      simp only [cond_eq_ite, Bool.and_eq_true] at h
      split at h
      · rename_i hc
        cases h
        refine eG_sub hg fun fs h hr => ?_
        obtain ⟨hF, hH, hE⟩ := hr
        have b := hE i lo hi hq
        refine ⟨(F, n, t, en.set i (lo + (eb (erho S.2 i) - lo), lo + (eb (erho S.2 i) - lo))), List.mem_map.mpr ⟨eb (erho S.2 i) - lo, List.mem_range.mpr (by omega), rfl⟩, hF, hH, eEv_set hE (by omega) (by omega)⟩
      · cases h
    · cases h
  · cases h
theorem eSt_len {xs : Nat → Int32} : ∀ {vs : List eV} {s0 : List Value}, eSt xs vs s0 → s0.length = vs.length
  | [], s0, h => by rw [show s0 = [] from h]; rfl
  | v :: vs, s0, ⟨x, s', h1, h2, h3⟩ => by rw [h1, List.length_cons, List.length_cons, eSt_len h3]
theorem eSt_cats {xs : Nat → Int32} : ∀ {vs : List eV} {s0 : List Value}, eSt xs vs s0 → (s0.map fun v => v.category).sum = ecats vs
  | [], s0, h => by rw [show s0 = [] from h]; rfl
  | v :: vs, s0, ⟨x, s', h1, h2, h3⟩ => by rw [h1, List.map_cons, List.sum_cons, eSt_cats h3, eR_cat h2]; rfl
theorem eSt_take {xs : Nat → Int32} : ∀ (k : Nat) {vs : List eV} {s0 : List Value}, eSt xs vs s0 → eSt xs (vs.take k) (s0.take k)
  | 0, _, _, _ => rfl
  | k + 1, [], s0, h => by rw [show s0 = [] from h]; rfl
  | k + 1, v :: vs, s0, ⟨x, s', h1, h2, h3⟩ => by rw [h1]; exact ⟨x, _, rfl, h2, eSt_take k h3⟩
theorem eSt_drop {xs : Nat → Int32} : ∀ (k : Nat) {vs : List eV} {s0 : List Value}, eSt xs vs s0 → eSt xs (vs.drop k) (s0.drop k)
  | 0, _, _, h => h
  | k + 1, [], s0, h => by rw [show s0 = [] from h]; rfl
  | k + 1, v :: vs, s0, ⟨x, s', h1, h2, h3⟩ => by rw [h1]; exact eSt_drop k h3
theorem eSt_app {xs : Nat → Int32} : ∀ {vs ws : List eV} {s0 s1 : List Value}, eSt xs vs s0 → eSt xs ws s1 → eSt xs (vs ++ ws) (s0 ++ s1)
  | [], ws, s0, s1, h, h' => by rw [show s0 = [] from h]; exact h'
  | v :: vs, ws, s0, s1, ⟨x, s', h1, h2, h3⟩, h' => by rw [h1]; exact ⟨x, _, rfl, h2, eSt_app h3 h'⟩
theorem eSt_rev {xs : Nat → Int32} : ∀ {vs : List eV} {s0 : List Value}, eSt xs vs s0 → eSt xs vs.reverse s0.reverse
  | [], s0, h => by rw [show s0 = [] from h]; rfl
  | v :: vs, s0, ⟨x, s', h1, h2, h3⟩ => by
    rw [h1, List.reverse_cons, List.reverse_cons]
    exact eSt_app (eSt_rev h3) ⟨x, [], rfl, h2, rfl⟩
theorem eent_ok {xs : Nat → Int32} : ∀ {vs : List eV} {s0 : List Value} (k : Nat), eSt xs vs s0 → eLo xs (eent k vs) (mi_ent k s0)
  | [], s0, k, h => by rw [show s0 = [] from h]; rfl
  | v :: vs, s0, k, ⟨x, s', h1, h2, h3⟩ => by
    rw [h1]
    refine ⟨x, _, rfl, h2, ?_⟩
    rw [eR_cat h2]
    exact eent_ok _ h3
theorem eFs_len {xs : Nat → Int32} : ∀ {es : List eF} {fs : List (Nat × mF)}, eFs xs es fs → fs.length = es.length
  | [], fs, h => by rw [show fs = [] from h]; rfl
  | (_, _, _, _) :: es, fs, ⟨l0, st0, fs', h1, _, _, h2⟩ => by rw [h1, List.length_cons, List.length_cons, eFs_len h2]
theorem ercv_ok {xs : Nat → Int32} {rc : Nat} {as : List eV} {s0 : List Value} {h : mH} (hH : eHp xs n t h) (hs : eSt xs as s0) (hr : ercv rc as t = true) : mi_rcv rc s0 h = true := by
  unfold ercv at hr
  unfold mi_rcv
  split at hr
  · rfl
  · split at hr
    · obtain ⟨x, s', rfl, hx, -⟩ := hs
      rw [cond_eq_ite] at hr
      split at hr
      · cases hr
      · rename_i hc
        split at hr
        · rename_i ce hce
          rw [show x = _ from hx]
          obtain ⟨c, h1, h2⟩ := hH.2 _ _ hce
          obtain ⟨fs, rfl, -, -⟩ := eK_obj h2 (Nat.eq_of_beq_eq_true hr)
          simp only [h1, beq_self_eq_true]
          rw [if_neg (fun q => hc (by rw [q]; rfl))]
        · cases hr
    · cases hr
end EQ
