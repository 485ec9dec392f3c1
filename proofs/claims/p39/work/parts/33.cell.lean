/-! VALUES, PLACES, CELLS. A value: an int or a long by its form, a reference; at a place also: an int between bounds (inl), any long (inr 0), a step's word (inr 1), one of the rows with the board's size at 48 mod 69 (inr 2), not known (inr 3) -/
abbrev zP : Type := (Int × Int) ⊕ Nat
abbrev zV : Type := zL ⊕ (Nat ⊕ (zL ⊕ zP))
/-- kind (0 .. 4 an array of ints, bytes, booleans, longs, references; 100 + c an object of class c), length, what every place holds, what single places hold -/
abbrev zC : Type := Nat × Nat × zP × List (zL × zV)
abbrev zT : Type := Lean.RArray (Nat × zC)
abbrev zW : Type := Lean.RArray (Nat × List Nat)
abbrev zF : Type := Nat × Nat × List (Nat × zV) × List zV
abbrev zS : Type := List zF × zT × zN
def zint (e : zL) : zV := .inl e
def zref (k : Nat) : zV := .inr (.inl k)
def zlng (e : zL) : zV := .inr (.inr (.inl e))
def zpat (p : zP) : zV := .inr (.inr (.inr p))
def zD (p : zP) (j : Int) (x : Value) : Prop := match p with
  | .inl (lo, hi) => ∃ i : Int32, x = .int i ∧ lo ≤ i.toInt ∧ i.toInt ≤ hi
  | .inr 0 => ∃ l : Int64, x = .long l
  | .inr 1 => ∃ i : Int32, x = .int i ∧ (i.toInt % 16 = 1 → 0 ≤ i.toInt / 16 ∧ i.toInt / 16 ≤ 5)
  | .inr 2 => ∃ i : Int32, x = .int i ∧ (j % 69 = 48 → 0 ≤ i.toInt ∧ i.toInt ≤ 20)
  | .inr _ => True
def zQ (r : List Int) (v : zV) (j : Int) (x : Value) : Prop := match v with
  | .inl e => ∃ i : Int32, x = .int i ∧ zE r e i.toInt
  | .inr (.inl k) => x = .ref k
  | .inr (.inr (.inl e)) => ∃ l : Int64, x = .long l ∧ zE r e l.toInt
  | .inr (.inr (.inr p)) => zD p j x
def zslot (m : mC) (j : Int) : Option Value := match m with
  | .inl (_, n, .inl g) => if 0 ≤ j ∧ j < n then some (.int (g j.toNat)) else none
  | .inl (_, n, .inr (.inl g)) => if 0 ≤ j ∧ j < n then some (.long (g j.toNat)) else none
  | .inl (_, n, .inr (.inr g)) => if 0 ≤ j ∧ j < n then (g j.toNat).map Value.ref else none
  | .inr (_, fs) => if 0 ≤ j then fs[j.toNat]? else none
def zknd (m : mC) : Nat × Nat := match m with
  | .inl (t, n, _) => (t, n)
  | .inr (ci, fs) => (ci + 100, fs.length)
def zwf (m : mC) : Prop := match m with
  | .inl (t, _, .inl _) => t < 3
  | .inl (t, _, .inr (.inl _)) => t = 3
  | .inl (t, _, .inr (.inr _)) => t = 4
  | .inr _ => True
def zKc (r : List Int) (c : zC) (m : mC) : Prop := zwf m ∧ zknd m = (c.1, c.2.1) ∧ (∀ j x, zslot m j = some x → zD c.2.2.1 j x) ∧ ∀ q ∈ c.2.2.2, ∃ j x, zE r q.1 j ∧ zslot m j = some x ∧ zQ r q.2 j x
noncomputable def zget (t : zT) (k : Nat) : Option zC := bif Nat.beq (t.get k).1 (k + 1) then some (t.get k).2 else none
noncomputable def zset (t : zT) (k : Nat) (c : zC) : zT := Lean.RArray.rec (fun _ => .leaf (k + 1, c)) (fun p l r l' r' => (Nat.ble p k).rec (.branch p l' r) (.branch p l r')) t
noncomputable def zw (W : zW) (k j : Nat) : Bool := bif Nat.beq (W.get k).1 (k + 1) then (W.get k).2.any (Nat.beq j) else false
def zHp (r : List Int) (t : zT) (h : mH) : Prop := ∀ k c, zget t k = some c → ∃ m, mi_c h k = some m ∧ zKc r c m
def zia (m : mC) : Bool := match m with
  | .inl _ => true
  | .inr _ => false
/-- the place by which writing is allowed: an array's is 0 -/
def zwp (m : mC) (j : Nat) : Nat := bif zia m then 0 else j
/-- what a run may have changed -/
def zsm (W : zW) (h0 h : mH) : Prop := h.length = h0.length ∧ ∀ k m0, mi_c h0 k = some m0 → ∃ m, mi_c h k = some m ∧ zknd m = zknd m0 ∧ zia m = zia m0 ∧ (zwf m0 → zwf m) ∧ ∀ j : Nat, zw W k (zwp m0 j) = false → zslot m j = zslot m0 j
section ZC
variable {r : List Int} {v : zV} {j : Int} {x : Value} {m : mC} {c : zC} {t : zT} {h h0 h1 : mH}
theorem zQ_mono (s : List Int) (h : zQ r v j x) : zQ (r ++ s) v j x := by
  match v, h with
  | .inl e, ⟨i, h1, h2⟩ => exact ⟨i, h1, zE_mono s h2⟩
  | .inr (.inl k), h => exact h
  | .inr (.inr (.inl e)), ⟨l, h1, h2⟩ => exact ⟨l, h1, zE_mono s h2⟩
  | .inr (.inr (.inr p)), h => exact h
theorem zKc_mono (s : List Int) (h : zKc r c m) : zKc (r ++ s) c m := by
  obtain ⟨h1, h2, h3, h4⟩ := h
  refine ⟨h1, h2, h3, fun q hq => ?_⟩
  obtain ⟨j, x, e1, e2, e3⟩ := h4 q hq
  exact ⟨j, x, zE_mono s e1, e2, zQ_mono s e3⟩
theorem zHp_mono (s : List Int) (H : zHp r t h) : zHp (r ++ s) t h := by
  intro k c hk
  obtain ⟨m, h1, h2⟩ := H k c hk
  exact ⟨m, h1, zKc_mono s h2⟩
theorem zset_get (t : zT) (k : Nat) (c : zC) (j : Nat) : (zset t k c).get j = (k + 1, c) ∨ ((zset t k c).get j = t.get j ∧ j ≠ k) := by
  induction t with
  | leaf a => exact Or.inl rfl
  | branch p l r hl hr =>
    have e1 : (zset (.branch p l r) k c) = (Nat.ble p k).rec (.branch p (zset l k c) r) (.branch p l (zset r k c)) := rfl
    rw [e1]
    cases hk : Nat.ble p k with
    | false =>
      show ((Lean.RArray.branch p (zset l k c) r).get j = _) ∨ _
      have e2 : (Lean.RArray.branch p (zset l k c) r).get j = (Nat.ble p j).rec ((zset l k c).get j) (r.get j) := rfl
      have e3 : (Lean.RArray.branch p l r).get j = (Nat.ble p j).rec (l.get j) (r.get j) := rfl
      simp only [e2, e3]
      cases hj : Nat.ble p j with
      | false => exact hl
      | true =>
        refine Or.inr ⟨rfl, ?_⟩
        intro q
        rw [q, hk] at hj
        cases hj
    | true =>
      show ((Lean.RArray.branch p l (zset r k c)).get j = _) ∨ _
      have e2 : (Lean.RArray.branch p l (zset r k c)).get j = (Nat.ble p j).rec (l.get j) ((zset r k c).get j) := rfl
      have e3 : (Lean.RArray.branch p l r).get j = (Nat.ble p j).rec (l.get j) (r.get j) := rfl
      simp only [e2, e3]
      cases hj : Nat.ble p j with
      | true => exact hr
      | false =>
        refine Or.inr ⟨rfl, ?_⟩
        intro q
        rw [q, hk] at hj
        cases hj
theorem zget_zset {k j : Nat} {c ce : zC} (h : zget (zset t k c) j = some ce) : (j = k ∧ ce = c) ∨ (j ≠ k ∧ zget t j = some ce) := by
  by_cases hj : j = k
  · subst hj
    unfold zget at h
    rcases zset_get t j c j with q | ⟨-, q⟩
    · rw [q] at h
      simp only [Nat.beq_refl, cond_true, Option.some.injEq] at h
      exact Or.inl ⟨rfl, h.symm⟩
    · exact absurd rfl q
  · refine Or.inr ⟨hj, ?_⟩
    unfold zget at h ⊢
    rcases zset_get t k c j with q | ⟨q, -⟩
    · rw [q] at h
      simp only [cond_eq_ite] at h
      split at h
      · rename_i hb; exact absurd (Nat.succ.inj (Nat.eq_of_beq_eq_true hb)).symm hj
      · cases h
    · rw [q] at h
      exact h
/-- a cell told anew, the cells as they are -/
theorem zHp_c {k : Nat} (H : zHp r t h) (hk : mi_c h k = some m) (hK : zKc r c m) : zHp r (zset t k c) h := by
  intro j cj hj
  rcases zget_zset hj with ⟨rfl, rfl⟩ | ⟨-, hj⟩
  · exact ⟨m, hk, hK⟩
  · exact H j cj hj
/-- a cell written -/
theorem zHp_w {k : Nat} {m0 : mC} (H : zHp r t h) (hk : mi_c h k = some m0) (hK : zKc r c m) : zHp r (zset t k c) (mi_w h k m) := by
  intro j cj hj
  rcases zget_zset hj with ⟨rfl, rfl⟩ | ⟨hne, hj⟩
  · exact ⟨m, by rw [mi_c_w hk, if_pos rfl], hK⟩
  · obtain ⟨c', h1, h2⟩ := H j cj hj
    exact ⟨c', by rw [mi_c_w hk, if_neg hne]; exact h1, h2⟩
theorem zsm_rf {W : zW} : zsm W h h := ⟨rfl, fun k m0 hk => ⟨m0, hk, rfl, rfl, id, fun _ _ => rfl⟩⟩
theorem zsm_tr {W W' : zW} (a : zsm W h0 h) (b : zsm W' h h1) (hW : ∀ k j, zw W' k j = true → zw W k j = true) : zsm W h0 h1 := by
  refine ⟨b.1.trans a.1, fun k m0 hk => ?_⟩
  obtain ⟨m, e1, e2, e0, e3, e4⟩ := a.2 k m0 hk
  obtain ⟨m', f1, f2, f0, f3, f4⟩ := b.2 k m e1
  refine ⟨m', f1, f2.trans e2, f0.trans e0, fun q => f3 (e3 q), fun j hj => ?_⟩
  have hz : zwp m j = zwp m0 j := by unfold zwp; rw [e0]
  rw [f4 j (by
    rw [hz]
    cases q : zw W' k (zwp m0 j) with
    | false => rfl
    | true => rw [hW _ _ q] at hj; exact hj), e4 j hj]
/-- one place written -/
theorem zsm_w {W : zW} {k : Nat} {j : Nat} {m' : mC} (hk : mi_c h k = some m) (hn : zknd m' = zknd m) (hi : zia m' = zia m) (hf : zwf m → zwf m') (hs : ∀ i : Nat, i ≠ j → zslot m' i = zslot m i) (hw : zw W k (zwp m j) = true) : zsm W h (mi_w h k m') := by
  refine ⟨by rw [mi_w_len], fun i m0 h0 => ?_⟩
  rw [mi_c_w hk]
  by_cases e : i = k
  · subst e
    rw [hk] at h0
    cases h0
    refine ⟨m', by rw [if_pos rfl], hn, hi, hf, fun i hi' => ?_⟩
    by_cases ej : i = j
    · subst ej; rw [hw] at hi'; cases hi'
    · exact hs i ej
  · exact ⟨m0, by rw [if_neg e]; exact h0, rfl, rfl, id, fun _ _ => rfl⟩
/-- an array written -/
theorem zsm_wa {W : zW} {k : Nat} {m' : mC} (hk : mi_c h k = some m) (hn : zknd m' = zknd m) (hi : zia m' = zia m) (ha : zia m = true) (hf : zwf m → zwf m') (hw : zw W k 0 = true) : zsm W h (mi_w h k m') := by
  refine ⟨by rw [mi_w_len], fun i m0 h0 => ?_⟩
  rw [mi_c_w hk]
  by_cases e : i = k
  · subst e
    rw [hk] at h0
    cases h0
    refine ⟨m', by rw [if_pos rfl], hn, hi, hf, fun i hi' => ?_⟩
    unfold zwp at hi'
    rw [ha, cond_true, hw] at hi'
    cases hi'
  · exact ⟨m0, by rw [if_neg e]; exact h0, rfl, rfl, id, fun _ _ => rfl⟩
theorem zslot_upd {tt n : Nat} {g : Nat → Int32} {i : Nat} {y : Int32} (hi : i < n) (q : Int) : zslot (.inl (tt, n, .inl (upd g i y))) q = if q = i then some (.int y) else zslot (.inl (tt, n, .inl g)) q := by
  simp only [zslot]
  by_cases e : q = i
  · subst e
    rw [if_pos rfl, if_pos ⟨by omega, by omega⟩]
    simp [upd]
  · rw [if_neg e]
    split
    · rename_i hq
      have : q.toNat ≠ i := by omega
      simp [upd, this]
    · rfl
theorem zslot_updL {tt n : Nat} {g : Nat → Int64} {i : Nat} {y : Int64} (hi : i < n) (q : Int) : zslot (.inl (tt, n, .inr (.inl (vp_updL g i y)))) q = if q = i then some (.long y) else zslot (.inl (tt, n, .inr (.inl g))) q := by
  simp only [zslot]
  by_cases e : q = i
  · subst e
    rw [if_pos rfl, if_pos ⟨by omega, by omega⟩]
    simp [vp_updL]
  · rw [if_neg e]
    split
    · rename_i hq
      have : q.toNat ≠ i := by omega
      simp [vp_updL, this]
    · rfl
theorem zslot_fs {ci : Nat} {fs : List Value} {i : Nat} {y : Value} (hi : i < fs.length) (q : Int) : zslot (.inr (ci, fs.set i y)) q = if q = i then some y else zslot (.inr (ci, fs)) q := by
  simp only [zslot]
  by_cases e : q = i
  · subst e
    rw [if_pos rfl, if_pos (by omega)]
    rw [show (i : Int).toNat = i by omega, List.getElem?_set_self hi]
  · rw [if_neg e]
    split
    · rename_i hq
      rw [List.getElem?_set_ne (by omega)]
    · rfl
end ZC
