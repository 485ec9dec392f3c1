/-! STATES: frames, cells, what is known; and what they stand for -/
def zlk : List (Nat × zV) → Nat → Option zV
  | [], _ => none
  | (k, v) :: t, j => bif Nat.beq k j then some v else zlk t j
/-- might it be a long? -/
def zisl (v : zV) : Bool := match v with
  | .inl _ => false
  | .inr (.inl _) => false
  | _ => true
def zcat (v : zV) : Nat := match v with
  | .inr (.inr (.inl _)) => 2
  | _ => 1
def zcats : List zV → Nat
  | [] => 0
  | v :: t => zcat v + zcats t
def zs1 (l : List (Nat × zV)) (i : Nat) (v : zV) : List (Nat × zV) := (i, v) :: l.filter (fun q => !(Nat.beq q.1 i) && !(Nat.beq (q.1 + 1) i && zisl q.2))
def zs2 (l : List (Nat × zV)) (i : Nat) (v : zV) : List (Nat × zV) := (i, v) :: l.filter (fun q => !(Nat.beq q.1 i) && (!(Nat.beq q.1 (i + 1)) && !(Nat.beq (q.1 + 1) i && zisl q.2)))
def zR (r : List Int) (v : zV) (x : Value) : Prop := znpt v = true ∧ zQ r v 0 x
def zSt (r : List Int) : List zV → List Value → Prop
  | [], st => st = []
  | v :: vs, st => ∃ x st', st = x :: st' ∧ zR r v x ∧ zSt r vs st'
def zLo (r : List Int) (l : List (Nat × zV)) (l0 : List (Nat × Value)) : Prop := ∀ q ∈ l, ∃ x, mi_lg l0 q.1 = some x ∧ zQ r q.2 0 x
def zFs (r : List Int) : List zF → List (Nat × mF) → Prop
  | [], fs => fs = []
  | (m, pc, l, st) :: es, fs => ∃ l0 st0 fs', fs = (m, pc, l0, st0) :: fs' ∧ zLo r l l0 ∧ zSt r st st0 ∧ zFs r es fs'
def zRS (J : mH → Prop) (r : List Int) (s : zS) (fs : List (Nat × mF)) (h : mH) : Prop := zFs r s.1 fs ∧ zHp r s.2.1 h ∧ zEn s.2.2 r ∧ J h
def zKs (P : mP) (S : Nat × (Nat → Int32)) (D : Nat) (Q : Option Value → mH → Prop) : List (Nat × mF) → Option Value → mH → Prop
  | [], r, h => Q r h
  | (m, f) :: fr, r, h => mi_T P S (D - fr.length) m (f.1, f.2.1, r.toList ++ f.2.2) h (zKs P S D Q fr)
def zKK (P : mP) (S : Nat × (Nat → Int32)) (D : Nat) (Q : Option Value → mH → Prop) : List (Nat × mF) → mH → Prop
  | [], _ => False
  | (m, f) :: fr, h => mi_T P S (D - fr.length) m f h (zKs P S D Q fr)
/-- every run from what the state stands for ends in Q; r0: the unknowns that stay what they are -/
def zG (P : mP) (S : Nat × (Nat → Int32)) (D : Nat) (J : mH → Prop) (r0 : List Int) (Q : Option Value → mH → Prop) (s : zS) : Prop := ∀ r1 fs h, zRS J (r0 ++ r1) s fs h → zKK P S D Q fs h
section ZS
variable {r : List Int} {v : zV} {x : Value} {l : List (Nat × zV)} {l0 : List (Nat × Value)} {vs : List zV} {st : List Value} {es : List zF} {fs : List (Nat × mF)}
theorem zR_cat (h : zR r v x) : x.category = zcat v := by
  match v, h with
  | .inl e, ⟨_, i, h1, _⟩ => subst h1; rfl
  | .inr (.inl k), ⟨_, h⟩ => rw [show x = _ from h]; rfl
  | .inr (.inr (.inl e)), ⟨_, i, h1, _⟩ => subst h1; rfl
  | .inr (.inr (.inr p)), ⟨h, _⟩ => cases h
theorem zQ_cat1 (h : zQ r v 0 x) (hl : zisl v = false) : x.category = 1 := by
  match v, h with
  | .inl e, ⟨i, h1, _⟩ => subst h1; rfl
  | .inr (.inl k), h => rw [show x = _ from h]; rfl
  | .inr (.inr (.inl e)), _ => cases hl
  | .inr (.inr (.inr p)), _ => cases hl
theorem zR_mono (s : List Int) (h : zR r v x) : zR (r ++ s) v x := ⟨h.1, zQ_mono s h.2⟩
theorem zSt_mono (s : List Int) : ∀ {vs : List zV} {st : List Value}, zSt r vs st → zSt (r ++ s) vs st
  | [], st, h => h
  | v :: vs, st, ⟨x, st', e, h1, h2⟩ => ⟨x, st', e, zR_mono s h1, zSt_mono s h2⟩
theorem zLo_mono (s : List Int) (h : zLo r l l0) : zLo (r ++ s) l l0 := by
  intro q hq
  obtain ⟨x, h1, h2⟩ := h q hq
  exact ⟨x, h1, zQ_mono s h2⟩
theorem zFs_mono (s : List Int) : ∀ {es : List zF} {fs : List (Nat × mF)}, zFs r es fs → zFs (r ++ s) es fs
  | [], fs, h => h
  | (m, pc, l, st) :: es, fs, ⟨l0, st0, fs', e, h1, h2, h3⟩ => ⟨l0, st0, fs', e, zLo_mono s h1, zSt_mono s h2, zFs_mono s h3⟩
theorem zlk_mem : ∀ {l : List (Nat × zV)} {k : Nat} {v : zV}, zlk l k = some v → (k, v) ∈ l
  | [], k, v, h => by cases h
  | (j, w) :: t, k, v, h => by
    simp only [zlk, cond_eq_ite] at h
    split at h
    · rename_i e
      have e := Nat.eq_of_beq_eq_true e
      subst e
      rw [Option.some.inj h]
      exact List.mem_cons_self ..
    · exact List.mem_cons_of_mem _ (zlk_mem h)
theorem zLo_get (h : zLo r l l0) {k : Nat} (hk : zlk l k = some v) : ∃ x, mi_lg l0 k = some x ∧ zQ r v 0 x := h (k, v) (zlk_mem hk)
theorem mi_lg_cons {k i : Nat} {w : Value} {t : List (Nat × Value)} : mi_lg ((i, w) :: t) k = if i = k then some w else mi_lg t k := by
  unfold mi_lg
  rw [List.find?_cons]
  by_cases e : i = k
  · subst e; simp
  · rw [if_neg e]
    have : (i == k) = false := by simpa using e
    simp only [this]
theorem mi_lg_filter {p : Nat × Value → Bool} {k : Nat} : ∀ {t : List (Nat × Value)} {w : Value}, mi_lg t k = some w → p (k, w) = true → mi_lg (t.filter p) k = some w
  | [], w, h, _ => by cases h
  | (i, u) :: t, w, h, hp => by
    rw [mi_lg_cons] at h
    rw [List.filter_cons]
    by_cases e : i = k
    · subst e
      rw [if_pos rfl] at h
      cases h
      rw [if_pos hp, mi_lg_cons, if_pos rfl]
    · rw [if_neg e] at h
      split
      · rw [mi_lg_cons, if_neg e]; exact mi_lg_filter h hp
      · exact mi_lg_filter h hp
theorem zLo_s1 {i : Nat} (h : zLo r l l0) (hv : zQ r v 0 x) : zLo r (zs1 l i v) (mi_s1 l0 i x) := by
  intro q hq
  unfold mi_s1
  rcases List.mem_cons.mp hq with g | g
  · rw [g]; exact ⟨x, by rw [mi_lg_cons, if_pos rfl], hv⟩
  · rw [List.mem_filter] at g
    obtain ⟨y, h1, h2⟩ := h q g.1
    have hp := g.2
    simp only [Bool.and_eq_true, Bool.not_eq_true', e_beq] at hp
    have hne : ¬ i = q.1 := fun e => by rw [e] at hp; simp at hp
    refine ⟨y, ?_, h2⟩
    rw [mi_lg_cons, if_neg hne]
    refine mi_lg_filter h1 ?_
    simp only [Bool.and_eq_true, Bool.not_eq_true']
    refine ⟨hp.1, ?_⟩
    cases hq1 : (q.1 + 1 == i) with
    | false => rfl
    | true =>
      rw [hq1, Bool.true_and] at hp
      rw [zQ_cat1 h2 hp.2]
      rfl
theorem zLo_s2 {i : Nat} (h : zLo r l l0) (hv : zQ r v 0 x) : zLo r (zs2 l i v) (mi_s2 l0 i x) := by
  intro q hq
  unfold mi_s2
  rcases List.mem_cons.mp hq with g | g
  · rw [g]; exact ⟨x, by rw [mi_lg_cons, if_pos rfl], hv⟩
  · rw [List.mem_filter] at g
    obtain ⟨y, h1, h2⟩ := h q g.1
    have hp := g.2
    simp only [Bool.and_eq_true, Bool.not_eq_true', e_beq] at hp
    have hne : ¬ i = q.1 := fun e => by rw [e] at hp; simp at hp
    refine ⟨y, ?_, h2⟩
    rw [mi_lg_cons, if_neg hne]
    refine mi_lg_filter h1 ?_
    simp only [Bool.and_eq_true, Bool.not_eq_true']
    refine ⟨hp.1, hp.2.1, ?_⟩
    cases hq1 : (q.1 + 1 == i) with
    | false => rfl
    | true =>
      have := hp.2.2
      rw [hq1, Bool.true_and] at this
      rw [zQ_cat1 h2 this]
      rfl
theorem zSt_len : ∀ {vs : List zV} {st : List Value}, zSt r vs st → st.length = vs.length
  | [], st, h => by rw [show st = [] from h]; rfl
  | v :: vs, st, ⟨x, st', e, _, h⟩ => by rw [e]; simp [zSt_len h]
theorem zSt_cats : ∀ {vs : List zV} {st : List Value}, zSt r vs st → (st.map fun v => v.category).sum = zcats vs
  | [], st, h => by rw [show st = [] from h]; rfl
  | v :: vs, st, ⟨x, st', e, h1, h⟩ => by rw [e]; simp [zSt_cats h, zcats, zR_cat h1]
theorem zSt_take : ∀ (k : Nat) {vs : List zV} {st : List Value}, zSt r vs st → zSt r (vs.take k) (st.take k)
  | 0, vs, st, h => by simp [zSt]
  | k + 1, [], st, h => by rw [show st = [] from h]; simp [zSt]
  | k + 1, v :: vs, st, ⟨x, st', e, h1, h⟩ => by rw [e]; exact ⟨x, st'.take k, rfl, h1, zSt_take k h⟩
theorem zSt_drop : ∀ (k : Nat) {vs : List zV} {st : List Value}, zSt r vs st → zSt r (vs.drop k) (st.drop k)
  | 0, vs, st, h => h
  | k + 1, [], st, h => by rw [show st = [] from h]; simp [zSt]
  | k + 1, v :: vs, st, ⟨x, st', e, h1, h⟩ => by rw [e]; exact zSt_drop k h
theorem zSt_app : ∀ {vs ws : List zV} {s0 s1 : List Value}, zSt r vs s0 → zSt r ws s1 → zSt r (vs ++ ws) (s0 ++ s1)
  | [], ws, s0, s1, h, h' => by rw [show s0 = [] from h]; exact h'
  | v :: vs, ws, s0, s1, ⟨x, st', e, h1, h⟩, h' => by rw [e]; exact ⟨x, st' ++ s1, rfl, h1, zSt_app h h'⟩
theorem zSt_rev : ∀ {vs : List zV} {s0 : List Value}, zSt r vs s0 → zSt r vs.reverse s0.reverse
  | [], s0, h => by rw [show s0 = [] from h]; simp [zSt]
  | v :: vs, s0, ⟨x, st', e, h1, h⟩ => by
    rw [e, List.reverse_cons, List.reverse_cons]
    exact zSt_app (zSt_rev h) ⟨x, [], rfl, h1, rfl⟩
def zent : Nat → List zV → List (Nat × zV)
  | _, [] => []
  | k, v :: t => (k, v) :: zent (k + zcat v) t
theorem zent_lt : ∀ {vs : List zV} (k : Nat) {q : Nat × zV}, q ∈ zent k vs → k ≤ q.1
  | v :: vs, k, q, h => by
    rcases List.mem_cons.mp h with g | g
    · rw [g]; exact Nat.le_refl _
    · have := zent_lt _ g
      omega
theorem zent_ok : ∀ {vs : List zV} {s0 : List Value} (k : Nat), zSt r vs s0 → zLo r (zent k vs) (mi_ent k s0)
  | [], s0, k, h => by intro q hq; cases hq
  | v :: vs, s0, k, ⟨x, st', e, h1, h⟩ => by
    rw [e]
    intro q hq
    simp only [mi_ent]
    rcases List.mem_cons.mp hq with g | g
    · rw [g]; exact ⟨x, by rw [mi_lg_cons, if_pos rfl], h1.2⟩
    · obtain ⟨y, g1, g2⟩ := zent_ok (k + zcat v) h q g
      have hlt := zent_lt _ g
      have : 1 ≤ zcat v := by unfold zcat; split <;> omega
      refine ⟨y, ?_, g2⟩
      rw [mi_lg_cons, if_neg (by omega), zR_cat h1]
      exact g1
theorem zFs_len : ∀ {es : List zF} {fs : List (Nat × mF)}, zFs r es fs → fs.length = es.length
  | [], fs, h => by rw [show fs = [] from h]; rfl
  | (m, pc, l, st) :: es, fs, ⟨l0, st0, fs', e, _, _, h⟩ => by rw [e]; simp [zFs_len h]
end ZS
