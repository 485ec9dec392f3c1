/-! a state that is within another -/
def evle (en : eEn) (v w : eV) : Bool := match w with
  | .inr (.inr (.inr (.inr _))) => eisI v
  | .inl b => (match v with
    | .inl a => Nat.beq a b
    | _ => false)
  | .inr (.inl j) => (match v with
    | .inr (.inl i) => Nat.beq i j
    | .inl a => (match en[j]? with
      | some (lo, hi) => Nat.beq lo a && Nat.beq hi a
      | none => false)
    | _ => false)
  | .inr (.inr (.inl b)) => (match v with
    | .inr (.inr (.inl a)) => Nat.beq a b
    | _ => false)
  | .inr (.inr (.inr (.inl b))) => (match v with
    | .inr (.inr (.inr (.inl a))) => Nat.beq a b
    | _ => false)
def ecle (en : eEn) (c d : eC) : Bool := Nat.beq d.1 99 || (Nat.beq c.1 d.1 && (Nat.beq c.2.1 d.2.1 && (d.2.2.2.all (fun q => match elk c q.1 with
    | some v => evle en v q.2
    | none => false) && (match d.2.2.1 with
    | none => true
    | some w => (match c.2.2.1 with
      | some v => evle en v w
      | none => false) && c.2.2.2.all (fun q => match efind d.2.2.2 q.1 with
      | some _ => true
      | none => evle en q.2 w)))))
noncomputable def elvs (t : eTr) : List (Nat × eC) := Lean.RArray.rec (fun a => [a]) (fun _ _ _ l r => l ++ r) t
def eLle (en : eEn) : List (Nat × eV) → List (Nat × eV) → Bool
  | [], [] => true
  | (i, v) :: l, (j, w) :: l' => Nat.beq i j && (evle en v w && eLle en l l')
  | _, _ => false
def eSle (en : eEn) : List eV → List eV → Bool
  | [], [] => true
  | v :: l, w :: l' => evle en v w && eSle en l l'
  | _, _ => false
def eFle (en : eEn) : List eF → List eF → Bool
  | [], [] => true
  | (m, pc, l, st) :: f, (m', pc', l', st') :: f' => Nat.beq m m' && (Nat.beq pc pc' && (eLle en l l' && (eSle en st st' && eFle en f f')))
  | _, _ => false
def eEle : eEn → eEn → Bool
  | _, [] => true
  | (a, b) :: e, (c, d) :: e' => Nat.ble c a && (Nat.ble b d && eEle e e')
  | [], _ :: _ => false
noncomputable def eincl (s F : eS) : Bool := eFle s.2.2.2 s.1 F.1 && (Nat.beq s.2.1 F.2.1 && (eEle s.2.2.2 F.2.2.2 && (elvs F.2.2.1).all (fun q => Nat.beq q.1 0 || (match eget s.2.2.1 (q.1 - 1) with
  | some c => ecle s.2.2.2 c q.2
  | none => false))))
/-- the state stands where F does, and is within it -/
noncomputable def estop (F s : eS) : Bool := match s.1, F.1 with
  | (m, pc, _, _) :: _, (m', pc', _, _) :: _ => Nat.beq pc pc' && (Nat.beq m m' && eincl s F)
  | _, _ => false
noncomputable def ehav (keep : Nat → Bool) (t : eTr) : eTr := Lean.RArray.rec (fun a => .leaf (bif keep a.1 then a else (a.1, 99, 0, none, []))) (fun p _ _ l r => .branch p l r) t
def eset1 (s : eS) (i : Nat) (iv : Nat × Nat) : eS := (s.1, s.2.1, s.2.2.1, s.2.2.2.set i iv)
section EI
variable {xs : Nat → Int32}
theorem evle_ok {en : eEn} {v w : eV} {x : Value} (he : eEv xs en) (h : evle en v w = true) (hx : eR xs v x) : eR xs w x := by
  unfold evle at h
  split at h
  · exact eR_int h hx
  · split at h
    · rw [← Nat.eq_of_beq_eq_true h]; exact hx
    · cases h
  · split at h
    · rw [← Nat.eq_of_beq_eq_true h]; exact hx
    · split at h
      · rename_i j _ a _ lo hi hq
        simp only [Bool.and_eq_true] at h
        have h1 := Nat.eq_of_beq_eq_true h.1
        have h2 := Nat.eq_of_beq_eq_true h.2
        obtain ⟨y, rfl, hy⟩ := hx
        have h3 := he j lo hi hq
        show Value.int y = Value.int (erho xs j)
        rw [eb_inj (x := y) (y := erho xs j) (by omega)]
      · cases h
    · cases h
  · split at h
    · rw [← Nat.eq_of_beq_eq_true h]; exact hx
    · cases h
  · split at h
    · rw [← Nat.eq_of_beq_eq_true h]; exact hx
    · cases h
theorem efind_mem : ∀ {l : List (Nat × eV)} {j : Nat} {v : eV}, efind l j = some v → (j, v) ∈ l
  | [], j, v, h => by cases h
  | (k, w) :: t, j, v, h => by
    simp only [efind, cond_eq_ite] at h
    split at h
    · rename_i hk
      have hk := Nat.eq_of_beq_eq_true hk
      subst hk
      cases h
      exact List.mem_cons_self
    · exact List.mem_cons_of_mem _ (efind_mem h)
theorem ecle_lk {en : eEn} {c d : eC} {j : Nat} {w : eV} (h : ecle en c d = true) (h9 : ¬ d.1 = 99) (hw : elk d j = some w) : ∃ v, elk c j = some v ∧ evle en v w = true := by
  simp only [ecle, Bool.or_eq_true, Bool.and_eq_true] at h
  rcases h with h | ⟨h1, h2, h3, h4⟩
  · exact absurd (Nat.eq_of_beq_eq_true h) h9
  · unfold elk at hw
    split at hw
    · rename_i w' hq
      cases hw
      have h5 := List.all_eq_true.mp h3 (j, w) (efind_mem hq)
      simp only at h5
      split at h5
      · rename_i v hv; exact ⟨v, hv, h5⟩
      · cases h5
    · rename_i hq
      rw [hw] at h4
      simp only [Bool.and_eq_true] at h4
      obtain ⟨h5, h6⟩ := h4
      unfold elk
      cases hc : efind c.2.2.2 j with
      | some v =>
        have h7 := List.all_eq_true.mp h6 (j, v) (efind_mem hc)
        simp only [hq] at h7
        exact ⟨v, rfl, h7⟩
      | none =>
        split at h5
        · rename_i v hv; exact ⟨v, hv, h5⟩
        · cases h5
theorem ecle_ok {en : eEn} {c d : eC} {x : mC} (he : eEv xs en) (h : ecle en c d = true) (hx : eK xs c x) : eK xs d x := by
  by_cases h9 : d.1 = 99
  · exact Or.inl h9
  · have hh := h
    simp only [ecle, Bool.or_eq_true, Bool.and_eq_true] at hh
    rcases hh with hh | ⟨h1, h2, -, -⟩
    · exact absurd (Nat.eq_of_beq_eq_true hh) h9
    · have h1 := Nat.eq_of_beq_eq_true h1
      have h2 := Nat.eq_of_beq_eq_true h2
      rcases hx with q | q
      · exact absurd (h1.symm.trans q) h9
      · refine Or.inr ?_
        rcases x with ⟨t, n, g | g | g⟩ | ⟨ci, fs⟩
        · obtain ⟨a1, a2, a3, a4⟩ := q
          exact ⟨h1.symm.trans a1, a2, h2.symm.trans a3, fun j w hw => by
            obtain ⟨v, hv, hl⟩ := ecle_lk h h9 hw
            exact evle_ok he hl (a4 j v hv)⟩
        · obtain ⟨a1, a2, a3, a4⟩ := q
          exact ⟨h1.symm.trans a1, a2, h2.symm.trans a3, fun j w hw => by
            obtain ⟨v, hv, hl⟩ := ecle_lk h h9 hw
            exact evle_ok he hl (a4 j v hv)⟩
        · obtain ⟨a1, a2, a3, a4⟩ := q
          exact ⟨h1.symm.trans a1, a2, h2.symm.trans a3, fun j w hw => by
            obtain ⟨v, hv, hl⟩ := ecle_lk h h9 hw
            obtain ⟨r, e1, e2⟩ := a4 j v hv
            exact ⟨r, e1, evle_ok he hl e2⟩⟩
        · obtain ⟨a1, a2, a3⟩ := q
          exact ⟨h1.symm.trans a1, h2.symm.trans a2, fun j w hw => by
            obtain ⟨v, hv, hl⟩ := ecle_lk h h9 hw
            obtain ⟨r, e1, e2⟩ := a3 j v hv
            exact ⟨r, e1, evle_ok he hl e2⟩⟩
theorem elvs_mem (t : eTr) (k : Nat) : t.get k ∈ elvs t := by
  induction t with
  | leaf a => exact List.mem_singleton_self _
  | branch p l r hl hr =>
    have e1 : (Lean.RArray.branch p l r).get k = (Nat.ble p k).rec (l.get k) (r.get k) := rfl
    have e2 : elvs (.branch p l r) = elvs l ++ elvs r := rfl
    rw [e1, e2]
    cases Nat.ble p k with
    | false => exact List.mem_append_left _ hl
    | true => exact List.mem_append_right _ hr
theorem eLle_ok {en : eEn} (he : eEv xs en) : ∀ {l l' : List (Nat × eV)} {l0 : List (Nat × Value)}, eLle en l l' = true → eLo xs l l0 → eLo xs l' l0
  | [], [], l0, _, hx => hx
  | (i, v) :: l, (j, w) :: l', l0, h, hx => by
    simp only [eLle, Bool.and_eq_true] at h
    obtain ⟨x, l1, rfl, h1, h2⟩ := hx
    have hij := Nat.eq_of_beq_eq_true h.1
    subst hij
    exact ⟨x, l1, rfl, evle_ok he h.2.1 h1, eLle_ok he h.2.2 h2⟩
  | [], _ :: _, _, h, _ => by cases h
  | _ :: _, [], _, h, _ => by cases h
theorem eSle_ok {en : eEn} (he : eEv xs en) : ∀ {l l' : List eV} {l0 : List Value}, eSle en l l' = true → eSt xs l l0 → eSt xs l' l0
  | [], [], l0, _, hx => hx
  | v :: l, w :: l', l0, h, hx => by
    simp only [eSle, Bool.and_eq_true] at h
    obtain ⟨x, l1, rfl, h1, h2⟩ := hx
    exact ⟨x, l1, rfl, evle_ok he h.1 h1, eSle_ok he h.2 h2⟩
  | [], _ :: _, _, h, _ => by cases h
  | _ :: _, [], _, h, _ => by cases h
theorem eFle_ok {en : eEn} (he : eEv xs en) : ∀ {l l' : List eF} {fs : List (Nat × mF)}, eFle en l l' = true → eFs xs l fs → eFs xs l' fs
  | [], [], fs, _, hx => hx
  | (m, pc, l, st) :: f, (m', pc', l', st') :: f', fs, h, hx => by
    simp only [eFle, Bool.and_eq_true] at h
    obtain ⟨l0, s0, fs', rfl, h1, h2, h3⟩ := hx
    have a := Nat.eq_of_beq_eq_true h.1
    have b := Nat.eq_of_beq_eq_true h.2.1
    subst a; subst b
    exact ⟨l0, s0, fs', rfl, eLle_ok he h.2.2.1 h1, eSle_ok he h.2.2.2.1 h2, eFle_ok he h.2.2.2.2 h3⟩
  | [], _ :: _, _, h, _ => by cases h
  | _ :: _, [], _, h, _ => by cases h
theorem eEle_at : ∀ {e e' : eEn} (i c d : Nat), eEle e e' = true → e'[i]? = some (c, d) → ∃ a b, e[i]? = some (a, b) ∧ c ≤ a ∧ b ≤ d
  | _, [], i, c, d, _, h => by simp at h
  | (a, b) :: e, (c', d') :: e', i, c, d, hl, h => by
    simp only [eEle, Bool.and_eq_true] at hl
    cases i with
    | zero =>
      simp only [List.getElem?_cons_zero, Option.some.injEq, Prod.mk.injEq] at h
      obtain ⟨rfl, rfl⟩ := h
      exact ⟨a, b, by simp, e_ble.mp hl.1, e_ble.mp hl.2.1⟩
    | succ i =>
      simp only [List.getElem?_cons_succ] at h ⊢
      exact eEle_at i c d hl.2.2 h
  | [], _ :: _, i, c, d, hl, _ => by cases hl
theorem eincl_ok {s F : eS} {fs : List (Nat × mF)} {h : mH} (hi : eincl s F = true) (hr : eRS xs s fs h) : eRS xs F fs h := by
  simp only [eincl, Bool.and_eq_true] at hi
  obtain ⟨h1, h2, h3, h4⟩ := hi
  obtain ⟨r1, r2, r3⟩ := hr
  refine ⟨eFle_ok r3 h1 r1, ⟨r2.1.trans (Nat.eq_of_beq_eq_true h2), fun k d hd => ?_⟩, fun i c d hq => ?_⟩
  · have hd' := hd
    unfold eget at hd'
    simp only [cond_eq_ite] at hd'
    split at hd'
    · rename_i hk
      have hk := Nat.eq_of_beq_eq_true hk
      have hd2 : (F.2.2.1.get k).2 = d := Option.some.inj hd'
      have h5 := List.all_eq_true.mp h4 _ (elvs_mem F.2.2.1 k)
      rw [hk, hd2] at h5
      simp only [Bool.or_eq_true, Nat.add_sub_cancel] at h5
      rcases h5 with h5 | h5
      · exact absurd (Nat.eq_of_beq_eq_true h5) (by omega)
      · split at h5
        · rename_i c hc
          obtain ⟨x, g1, g2⟩ := r2.2 k c hc
          exact ⟨x, g1, ecle_ok r3 h5 g2⟩
        · cases h5
    · cases hd'
  · obtain ⟨a, b, e1, e2, e3⟩ := eEle_at i c d h3 hq
    have := r3 i a b e1
    omega
theorem estop_ok {P : mP} {S : Nat × (Nat → Int32)} {D : Nat} {F s : eS} (h : estop F s = true) (hF : eG P S D F) : eG P S D s := by
  unfold estop at h
  split at h
  · simp only [Bool.and_eq_true] at h
    exact fun fs hp hr => hF fs hp (eincl_ok h.2.2 hr)
  · cases h
/-- bounds of one int: below c and c, above c -/
theorem eG_cut {P : mP} {S : Nat × (Nat → Int32)} {D : Nat} {s : eS} (i c : Nat) (h1 : eG P S D (eset1 s i (0, c))) (h2 : eG P S D (eset1 s i (c + 1, 4294967295))) : eG P S D s := by
  intro fs h hr
  obtain ⟨r1, r2, r3⟩ := hr
  by_cases hc : eb (erho S.2 i) ≤ c
  · exact h1 fs h ⟨r1, r2, eEv_set r3 (Nat.zero_le _) hc⟩
  · have := eb_lt (erho S.2 i)
    exact h2 fs h ⟨r1, r2, eEv_set r3 (by omega) (by omega)⟩
theorem eset1_2 (s : eS) (i : Nat) (a b : Nat × Nat) : eset1 (eset1 s i a) i b = eset1 s i b := by
  unfold eset1
  simp [List.set_set]
end EI
