/-! CONTRACTS of methods: how an answer and the cells behind it lie, whatever the depth, if arguments and cells lie so -/
/-- bounds of new unknowns, facts, places by cell, the answer -/
abbrev zPo : Type := zBd × List zL × List (Nat × List (zL × zV)) × Option zV
/-- the method; the depth that it wants; arguments; bounds and facts of its unknowns; cells; what it may write; where its unknowns stand (an argument, or a cell's place); what may be behind it -/
abbrev zCt : Type := Nat × Nat × List zV × zBd × List zL × zT × zW × List (Nat ⊕ (Nat × zL)) × List zPo
def zAr (r : List Int) : List zV → List Value → Prop
  | [], xs => xs = []
  | v :: vs, xs => ∃ x xs', xs = x :: xs' ∧ zQ r v 0 x ∧ zAr r vs xs'
def zRt (r : List Int) (p : Option zV) (x : Option Value) : Prop := match p with
  | none => x = none
  | some v => ∃ y, x = some y ∧ zQ r v 0 y
def zPw (r : List Int) (wr : List (Nat × List (zL × zV))) (h : mH) : Prop := ∀ q ∈ wr, ∃ m, mi_c h q.1 = some m ∧ ∀ w ∈ q.2, ∃ j v, zE r w.1 j ∧ zslot m j = some v ∧ zQ r w.2 j v
/-- what every place of a cell holds goes on -/
def zDf (t : zT) (h : mH) : Prop := ∀ k c, zget t k = some c → ∃ m, mi_c h k = some m ∧ ∀ j v, zslot m j = some v → zD c.2.2.1 j v
/-- what is so behind the call -/
def zQo (bd : zBd) (W : zW) (t : zT) (ps : List zPo) (r : List Int) (h : mH) (x : Option Value) (h' : mH) : Prop := zsm W h h' ∧ zDf t h' ∧ ∃ po ∈ ps, ∃ s, zB (bd ++ po.1) (r ++ s) ∧ zFa po.2.1 (r ++ s) ∧ zPw (r ++ s) po.2.2.1 h' ∧ zRt (r ++ s) po.2.2.2 x
noncomputable def zwlv (W : zW) : List (Nat × List Nat) := Lean.RArray.rec (fun a => [a]) (fun _ _ _ l r => l ++ r) W
/-- what is written is told ahead -/
noncomputable def zwin (W : zW) (t : zT) : Bool := (zwlv W).all (fun q => Nat.beq q.1 0 || (match q.2 with
  | [] => true
  | _ => (zget t (q.1 - 1)).isSome))
def zCtr (P : mP) (S : Nat × (Nat → Int32)) (Om : mH → Prop) (ct : zCt) : Prop := zwin ct.2.2.2.2.2.2.1 ct.2.2.2.2.2.1 = true ∧ ∀ D, ct.2.1 ≤ D → ∀ r as h, Om h → zB ct.2.2.2.1 r → zFa ct.2.2.2.2.1 r → zAr r ct.2.2.1 as → zHp r ct.2.2.2.2.2.1 h →
  mi_T P S D ct.1 (0, mi_ent 0 as, []) h (fun x h' => zQo ct.2.2.2.1 ct.2.2.2.2.2.2.1 ct.2.2.2.2.2.1 ct.2.2.2.2.2.2.2.2 r h x h' ∧ Om h')
noncomputable def zwle (W' W : zW) : Bool := (zwlv W').all (fun q => Nat.beq q.1 0 || q.2.all (zw W (q.1 - 1)))
noncomputable def zsrc (t : zT) (as : List zV) : List (Nat ⊕ (Nat × zL)) → Option (List zL)
  | [] => some []
  | .inl i :: u => (match as[i]?, zsrc t as u with
    | some (.inl e), some g => some (e :: g)
    | some (.inr (.inr (.inl e))), some g => some (e :: g)
    | _, _ => none)
  | .inr (k, ix) :: u => (match zget t k with
    | some c => (match zfnd ix c.2.2.2, zsrc t as u with
      | some (.inl e), some g => some (e :: g)
      | some (.inr (.inr (.inl e))), some g => some (e :: g)
      | _, _ => none)
    | none => none)
def zale (en : zN) (g : List zL) : List zV → List zV → Bool
  | [], [] => true
  | a :: as, p :: ps => (match zsv g p with
    | some w => zvle en a w (zK 0)
    | none => false) && zale en g as ps
  | _, _ => false
def zsms (g : List zL) : List (zL × zV) → Option (List (zL × zV))
  | [] => some []
  | (e, v) :: t => match zsb g e, zsv g v, zsms g t with
    | some ix, some w, some u => some ((ix, w) :: u)
    | _, _, _ => none
/-- what stays known of a cell, where the places js are written -/
def zfg (js : List Nat) (c : zC) : List (zL × zV) := match js with
  | [] => c.2.2.2
  | _ => bif Nat.blt c.1 100 then [] else c.2.2.2.filter (fun q => match q.1.2 with
    | [] => !(js.any (fun j => zeq q.1.1 (Int.ofNat j)))
    | _ => false)
noncomputable def zjs (W : zW) (k : Nat) : List Nat := bif Nat.beq (W.get k).1 (k + 1) then (W.get k).2 else []
noncomputable def zforg (W : zW) (t : zT) : zT := Lean.RArray.rec (fun a => .leaf (a.1, a.2.1, a.2.2.1, a.2.2.2.1, zfg (zjs W (a.1 - 1)) a.2)) (fun p _ _ l r => .branch p l r) t
noncomputable def zputs (g : List zL) : List (Nat × List (zL × zV)) → zT → Option zT
  | [], t => some t
  | (k, ms) :: u, t => match zget t k with
    | some c => (match zsms g ms with
      | some ms' => zputs g u (zset t k (c.1, c.2.1, c.2.2.1, ms' ++ c.2.2.2))
      | none => none)
    | none => zputs g u t
def zkp (q : zP) : Bool := match q with
  | .inl _ => true
  | .inr k => Nat.blt k 3
/-- the answer -/
def zans (g : List zL) (en : zN) (p : Option zV) : Option (List (Option zV × zN)) := match p with
  | none => some [(none, en)]
  | some v => match zsv g v with
    | some (.inr (.inr (.inr q))) => bif zkp q then some ((zmat en q (zK 0)).map (fun w => (some w.1, w.2))) else none
    | some w => some [(some w, en)]
    | none => none
def znew (n : Nat) : Nat → List zL
  | 0 => []
  | k + 1 => zX n :: znew (n + 1) k
noncomputable def zpost (W : zW) (g : List zL) (en : zN) (t : zT) (po : zPo) : Option (List (Option zV × zT × zN)) := match zsbs (g ++ znew en.1.length po.1.length) po.2.1 with
  | some fs => (match zasms fs (en.1 ++ po.1, en.2) with
    | some en' => (match zputs (g ++ znew en.1.length po.1.length) po.2.2.1 (zforg W t), zans (g ++ znew en.1.length po.1.length) en' po.2.2.2 with
      | some t', some as => some (as.map (fun w => (w.1, t', w.2)))
      | _, _ => none)
    | none => some [])
  | none => none
noncomputable def zposts (W : zW) (g : List zL) (en : zN) (t : zT) : List zPo → Option (List (Option zV × zT × zN))
  | [] => some []
  | po :: u => match zpost W g en t po, zposts W g en t u with
    | some a, some b => some (a ++ b)
    | _, _ => none
/-- where a contract's unknowns stand; a place may be told by those found ahead of it -/
noncomputable def zsr2 (t : zT) (as : List zV) : List (Nat ⊕ (Nat × zL)) → List zL → Option (List zL)
  | [], g => some g
  | .inl i :: u, g => (match as[i]? with
    | some (.inl e) => zsr2 t as u (g ++ [e])
    | some (.inr (.inr (.inl e))) => zsr2 t as u (g ++ [e])
    | _ => none)
  | .inr (k, ix) :: u, g => (match zget t k, zsb g ix with
    | some c, some ix' => (match zfnd ix' c.2.2.2 with
      | some (.inl e) => zsr2 t as u (g ++ [e])
      | some (.inr (.inr (.inl e))) => zsr2 t as u (g ++ [e])
      | _ => none)
    | _, _ => none)
/-- a call by a contract -/
noncomputable def zap (W : zW) (en : zN) (t : zT) (as : List zV) (ct : zCt) : Option (List (Option zV × zT × zN)) := match zsr2 t as ct.2.2.2.2.2.2.2.1 [] with
  | some g => bif zale en g as ct.2.2.1 && (zble en g ct.2.2.2.1 && (zfle en g ct.2.2.2.2.1 && (ztle en g t ct.2.2.2.2.2.1 && zwle ct.2.2.2.2.2.2.1 W))) then zposts ct.2.2.2.2.2.2.1 g en t ct.2.2.2.2.2.2.2.2 else none
  | none => none
section ZN
variable {P : mP} {S : Nat × (Nat → Int32)} {W W' : zW} {en : zN} {g : List zL} {r rc : List Int} {t : zT} {h h' : mH}
theorem zwlv_mem (W : zW) (k : Nat) : W.get k ∈ zwlv W := by
  induction W with
  | leaf a => exact List.mem_singleton_self _
  | branch p l r hl hr =>
    have e1 : zwlv (.branch p l r) = zwlv l ++ zwlv r := rfl
    have e3 : (Lean.RArray.branch p l r).get k = (Nat.ble p k).rec (l.get k) (r.get k) := rfl
    rw [e1, e3]
    cases Nat.ble p k with
    | false => exact List.mem_append_left _ hl
    | true => exact List.mem_append_right _ hr
theorem zwle_ok (hl : zwle W' W = true) (k j : Nat) (h : zw W' k j = true) : zw W k j = true := by
  have hm := zwlv_mem W' k
  unfold zw at h
  rw [cond_eq_ite] at h
  split at h
  · rename_i hb
    have hb := Nat.eq_of_beq_eq_true hb
    have hq := List.all_eq_true.mp hl _ hm
    rw [hb, Bool.or_eq_true] at hq
    rcases hq with hq | hq
    · cases hq
    · rw [Nat.add_sub_cancel] at hq
      obtain ⟨j', hj, e⟩ := List.any_eq_true.mp h
      rw [Nat.eq_of_beq_eq_true e]
      exact List.all_eq_true.mp hq _ hj
  · cases h
theorem zjs_w {k j : Nat} (h : zw W k j = true) : j ∈ zjs W k := by
  unfold zw at h
  unfold zjs
  rw [cond_eq_ite] at h ⊢
  split at h
  · obtain ⟨j', hj, e⟩ := List.any_eq_true.mp h
    rw [Nat.eq_of_beq_eq_true e]
    rename_i hb
    rw [if_pos hb]
    exact hj
  · cases h
theorem zale_ok (hE : zEn en r) (hg : zGr g r rc) : ∀ {as ps : List zV} {xs : List Value}, zale en g as ps = true → zSt r as xs → zAr rc ps xs
  | [], [], xs, _, hx => hx
  | [], _ :: _, xs, h, _ => by cases h
  | _ :: _, [], xs, h, _ => by cases h
  | a :: as, p :: ps, xs, h, hx => by
    simp only [zale, Bool.and_eq_true] at h
    obtain ⟨x, xs', rfl, h1, h2⟩ := zSt_c hx
    have h3 := h.1
    split at h3
    · rename_i w hw
      exact ⟨x, xs', rfl, zvle_to hE hg hw h3 h1.2 zE_K, zale_ok hE hg h.2 h2⟩
    · cases h3
theorem zsms_ok (hg : zGr g r rc) {m : mC} : ∀ {l l' : List (zL × zV)}, zsms g l = some l' → (∀ w ∈ l, ∃ j v, zE rc w.1 j ∧ zslot m j = some v ∧ zQ rc w.2 j v) → ∀ w ∈ l', ∃ j v, zE r w.1 j ∧ zslot m j = some v ∧ zQ r w.2 j v
  | [], l', h, _, w, hw => by cases h; cases hw
  | (e, v) :: t, l', h, hl, w, hw => by
    simp only [zsms] at h
    split at h
    · rename_i ix u l2 h1 h2 h3
      cases h
      rcases List.mem_cons.mp hw with q | q
      · rw [q]
        obtain ⟨j, x, e1, e2, e3⟩ := hl _ (List.mem_cons_self ..)
        exact ⟨j, x, zsb_of hg h1 e1, e2, zsv_of hg h2 e3⟩
      · exact zsms_ok hg h3 (fun w hw => hl w (List.mem_cons_of_mem _ hw)) w q
    · cases h
/-- what stays known of a cell stays so -/
theorem zfg_ok {c : zC} {m m' : mC} {k : Nat} (hK : zKc r c m) (hn : zknd m' = zknd m) (hi : zia m' = zia m) (hs : ∀ j : Nat, zw W k (zwp m j) = false → zslot m' j = zslot m j) : ∀ w ∈ zfg (zjs W k) c, ∃ j v, zE r w.1 j ∧ zslot m' j = some v ∧ zQ r w.2 j v := by
  have neg : ∀ {j : Int} {v : Value}, zslot m j = some v → 0 ≤ j := by
    intro j v hj
    match m, hj with
    | .inl (_, n, .inl g), hj => simp only [zslot] at hj; split at hj <;> first | omega | cases hj
    | .inl (_, n, .inr (.inl g)), hj => simp only [zslot] at hj; split at hj <;> first | omega | cases hj
    | .inl (_, n, .inr (.inr g)), hj => simp only [zslot] at hj; split at hj <;> first | omega | cases hj
    | .inr (_, fs), hj => simp only [zslot] at hj; split at hj <;> first | omega | cases hj
  have nw : ∀ j, j ∉ zjs W k → zw W k j = false := by
    intro j hj
    cases q : zw W k j with
    | false => rfl
    | true => exact absurd (zjs_w q) hj
  intro w hw
  unfold zfg at hw
  split at hw
  · rename_i he
    obtain ⟨j, v, e1, e2, e3⟩ := hK.2.2.2 w hw
    have h0 := neg e2
    refine ⟨j, v, e1, ?_, e3⟩
    have := hs j.toNat (nw _ (by rw [he]; simp))
    rw [show ((j.toNat : Nat) : Int) = j by omega] at this
    rw [this]
    exact e2
  · rw [cond_eq_ite] at hw
    split at hw
    · cases hw
    · rename_i hb
      have hb : ¬ c.1 < 100 := fun q => hb (e_blt.mpr q)
      rw [List.mem_filter] at hw
      obtain ⟨j, v, e1, e2, e3⟩ := hK.2.2.2 w hw.1
      have h0 := neg e2
      refine ⟨j, v, e1, ?_, e3⟩
      have hp := hw.2
      split at hp
      · rename_i hn0
        have hj : j = w.1.1 := by
          obtain ⟨y, hy, rfl⟩ := e1
          rw [hn0] at hy
          cases hy
          omega
        have hna : zia m = false := by
          match m, hK.1, hK.2.1 with
          | .inr _, _, _ => rfl
          | .inl (tt, n, .inl gg), q1, q2 => exfalso; simp only [zwf] at q1; simp only [zknd, Prod.mk.injEq] at q2; omega
          | .inl (tt, n, .inr (.inl gg)), q1, q2 => exfalso; simp only [zwf] at q1; simp only [zknd, Prod.mk.injEq] at q2; omega
          | .inl (tt, n, .inr (.inr gg)), q1, q2 => exfalso; simp only [zwf] at q1; simp only [zknd, Prod.mk.injEq] at q2; omega
        have hnot : j.toNat ∉ zjs W k := by
          intro q
          have hz : (zjs W k).any (fun j => zeq w.1.1 (Int.ofNat j)) = true := List.any_eq_true.mpr ⟨j.toNat, q, by rw [zeq_iff]; show w.1.1 = ((j.toNat : Nat) : Int); omega⟩
          rw [hz] at hp
          cases hp
        have := hs j.toNat (by unfold zwp; rw [hna]; exact nw _ hnot)
        rw [show ((j.toNat : Nat) : Int) = j by omega] at this
        rw [this]
        exact e2
      · cases hp
end ZN
