/-! WHAT IS KNOWN of the unknowns: bounds, facts, and of some that they came out of a row at a place (place, unknown): at a place that is 48 mod 69 they lie in 0 .. 20 -/
abbrev zN : Type := zBd × List zL × List (zL × Nat)
def zPd (pd : List (zL × Nat)) (r : List Int) : Prop := ∀ q ∈ pd, ∃ j x, zE r q.1 j ∧ r[q.2]? = some x ∧ (j % 69 = 48 → 0 ≤ x ∧ x ≤ 20)
def zEn (en : zN) (r : List Int) : Prop := zB en.1 r ∧ zFa en.2.1 r ∧ zPd en.2.2 r
/-- the unknown k, with the factor v in e, where e is not above 0 -/
def ztg1 (bd : zBd) (e : zL) (k : Nat) (v : Int) : Option zBd := match bd[k]?, zub bd (zneg (e.1, zins k (Int.neg v) e.2)) with
  | some (lo, hi), some m => (match v with
    | .ofNat 0 => some bd
    | .ofNat (n + 1) => bif zle hi (Int.ediv m (.ofNat (n + 1))) then some bd else bif zle lo (Int.ediv m (.ofNat (n + 1))) then some (bd.set k (lo, Int.ediv m (.ofNat (n + 1)))) else none
    | .negSucc n => bif zle (Int.neg (Int.ediv m (.ofNat (n + 1)))) lo then some bd else bif zle (Int.neg (Int.ediv m (.ofNat (n + 1)))) hi then some (bd.set k (Int.neg (Int.ediv m (.ofNat (n + 1))), hi)) else none)
  | _, _ => some bd
def ztg (e : zL) : List (Nat × Int) → zBd → Option zBd
  | [], bd => some bd
  | (k, v) :: t, bd => match ztg1 bd e k v with
    | some bd' => ztg e t bd'
    | none => none
def zwid (bd : zBd) : List (Nat × Int) → Bool
  | [] => false
  | (k, _) :: t => (match bd[k]? with
    | some b => zle b.1 (-2147483648) || zle 2147483647 b.2
    | none => true) || zwid bd t
/-- what is known, and that e is not above 0; none: that can't be -/
def zasm (en : zN) (e : zL) : Option zN := bif zpr en.1 en.2.1 1 (zac (zneg e) 1) then none else (match e.2 with
  | [] => some en
  | [_] => (match ztg e e.2 en.1 with
    | some bd => some (bd, en.2)
    | none => none)
  | _ => bif zle0 en.1 e then some en else (match ztg e e.2 en.1 with
    | some bd => some (bd, (bif Nat.ble e.2.length 4 && !(zwid bd e.2) && !(en.2.1.any (zeqL e)) then en.2.1 ++ [e] else en.2.1), en.2.2)
    | none => none))
def zasms : List zL → zN → Option zN
  | [], en => some en
  | e :: t, en => match zasm en e with
    | some en' => zasms t en'
    | none => none
section ZA
variable {en : zN} {bd : zBd} {r : List Int} {e : zL} {x : Int}
theorem zB_set {k : Nat} {lo hi z : Int} (hB : zB bd r) (hz : r[k]? = some z) (h1 : lo ≤ z) (h2 : z ≤ hi) : zB (bd.set k (lo, hi)) r := by
  refine ⟨by rw [List.length_set]; exact hB.1, fun j b hj => ?_⟩
  by_cases e : k = j
  · subst e
    have hk : k < bd.length := by rw [hB.1]; exact (List.getElem?_eq_some_iff.mp hz).1
    rw [List.getElem?_set_self hk] at hj
    cases hj
    exact ⟨z, hz, h1, h2⟩
  · rw [List.getElem?_set_ne e] at hj
    exact hB.2 j b hj
theorem ztg1_ok {k : Nat} {v : Int} (hB : zB bd r) (hx : zE r e x) (h0 : x ≤ 0) : ∃ bd', ztg1 bd e k v = some bd' ∧ zB bd' r := by
  unfold ztg1
  split
  · rename_i lo hi m hk hm
    obtain ⟨z, hz, hl, hh⟩ := hB.2 k _ hk
    obtain ⟨y, hy, rfl⟩ := hx
    have hr : zE r (e.1, zins k (Int.neg v) e.2) (e.1 + (-v * z + y)) := ⟨-v * z + y, zev_ins hz hy, rfl⟩
    have hm' := zub_le hB hm (zE_neg hr)
    have key : v * z ≤ m := by
      rw [Int.neg_mul] at hm'
      omega
    split
    · exact ⟨bd, rfl, hB⟩
    · rename_i n
      have q : z ≤ Int.ediv m (Int.ofNat (n + 1)) := by
        have := Int.le_ediv_of_mul_le (a := z) (b := m) (c := Int.ofNat (n + 1)) (by simp) (by rw [Int.mul_comm]; exact key)
        exact this
      simp only [cond_eq_ite]
      split
      · exact ⟨bd, rfl, hB⟩
      · rw [if_pos (zle_iff.mpr (Int.le_trans hl q))]
        exact ⟨_, rfl, zB_set hB hz hl q⟩
    · rename_i n
      have q : Int.neg (Int.ediv m (Int.ofNat (n + 1))) ≤ z := by
        have e1 : (-z) * Int.ofNat (n + 1) ≤ m := by
          have : Int.negSucc n * z = (-z) * Int.ofNat (n + 1) := by
            have : Int.negSucc n = - Int.ofNat (n + 1) := rfl
            rw [this, Int.neg_mul, Int.neg_mul, Int.mul_comm]
          rw [← this]
          exact key
        have := Int.le_ediv_of_mul_le (a := -z) (b := m) (c := Int.ofNat (n + 1)) (by simp) e1
        have e2 : Int.neg (Int.ediv m (Int.ofNat (n + 1))) = - (m / Int.ofNat (n + 1)) := rfl
        rw [e2]
        omega
      simp only [cond_eq_ite]
      split
      · exact ⟨bd, rfl, hB⟩
      · rw [if_pos (zle_iff.mpr (Int.le_trans q hh))]
        exact ⟨_, rfl, zB_set hB hz q hh⟩
  · exact ⟨bd, rfl, hB⟩
theorem ztg_ok (hx : zE r e x) (h0 : x ≤ 0) : ∀ (t : List (Nat × Int)) {bd : zBd}, zB bd r → ∃ bd', ztg e t bd = some bd' ∧ zB bd' r
  | [], bd, hB => ⟨bd, rfl, hB⟩
  | (k, v) :: t, bd, hB => by
    obtain ⟨b1, h1, hB1⟩ := ztg1_ok (k := k) (v := v) hB hx h0
    simp only [ztg, h1]
    exact ztg_ok hx h0 t hB1
theorem zasm_ok (hE : zEn en r) (hx : zE r e x) (h0 : x ≤ 0) : ∃ en', zasm en e = some en' ∧ zEn en' r := by
  obtain ⟨hB, hF, hP⟩ := hE
  have hn : ¬ zpr en.1 en.2.1 1 (zac (zneg e) 1) = true := by
    intro h
    have := zpr_ok hB hF h (zE_ac (c := 1) (zE_neg hx))
    omega
  unfold zasm
  rw [cond_eq_ite, if_neg hn]
  obtain ⟨bd', hb, hB'⟩ := ztg_ok hx h0 e.2 hB
  split
  · exact ⟨en, rfl, hB, hF, hP⟩
  · rw [hb]
    exact ⟨_, rfl, hB', hF, hP⟩
  · rw [cond_eq_ite]
    split
    · exact ⟨en, rfl, hB, hF, hP⟩
    · rw [hb]
      refine ⟨_, rfl, hB', ?_, hP⟩
      show zFa (bif _ then _ else _) r
      rw [cond_eq_ite]
      split
      · intro f hf
        rcases List.mem_append.mp hf with q | q
        · exact hF f q
        · rw [List.mem_singleton.mp q]
          exact ⟨x, hx, h0⟩
      · exact hF
theorem zasms_ok : ∀ {es : List zL} {en : zN}, zEn en r → (∀ e ∈ es, ∃ x, zE r e x ∧ x ≤ 0) → ∃ en', zasms es en = some en' ∧ zEn en' r
  | [], en, h, _ => ⟨en, rfl, h⟩
  | e :: t, en, h, hx => by
    obtain ⟨x, h1, h2⟩ := hx e (List.mem_cons_self ..)
    obtain ⟨en1, h3, h4⟩ := zasm_ok h h1 h2
    simp only [zasms, h3]
    exact zasms_ok h4 (fun e he => hx e (List.mem_cons_of_mem _ he))
theorem zEn_pr (hE : zEn en r) {d : Nat} (h : zpr en.1 en.2.1 d e = true) (hx : zE r e x) : x ≤ 0 := zpr_ok hE.1 hE.2.1 h hx
theorem zPd_mono {pd : List (zL × Nat)} (s : List Int) (h : zPd pd r) : zPd pd (r ++ s) := by
  intro q hq
  obtain ⟨j, x, h1, h2, h3⟩ := h q hq
  refine ⟨j, x, zE_mono s h1, ?_, h3⟩
  rw [List.getElem?_append_left (List.getElem?_eq_some_iff.mp h2).1]
  exact h2
end ZA
/-! a branch on d compared with 0 -/
def zbr (nf : Bool) (cd : Jvm.ClassFile.Cond) (d : zL) (en : zN) : List zN := match cd with
  | .lt => (zasm en (zac d 1)).toList
  | .le => (zasm en d).toList
  | .gt => (zasm en (zac (zneg d) 1)).toList
  | .ge => (zasm en (zneg d)).toList
  | .eq => (zasms [d, zneg d] en).toList
  | .ne => (match d.2 with
    | [] => bif zeq d.1 0 then [] else [en]
    | _ => (match zasm en (zac d 1), zasm en (zac (zneg d) 1) with
      | none, none => []
      | none, some b => [b]
      | some a, none => [a]
      | some a, some b => bif nf then [a, b] else [en]))
def zcd (cd : Jvm.ClassFile.Cond) (x : Int) : Prop := match cd with
  | .lt => x < 0
  | .le => x ≤ 0
  | .gt => 0 < x
  | .ge => 0 ≤ x
  | .eq => x = 0
  | .ne => x ≠ 0
theorem zbr_ok {nf : Bool} {cd : Jvm.ClassFile.Cond} {d : zL} {en : zN} {r : List Int} {x : Int} (hE : zEn en r) (hx : zE r d x) (hc : zcd cd x) : ∃ en' ∈ zbr nf cd d en, zEn en' r := by
  have one : ∀ {e : zL} {y : Int}, zE r e y → y ≤ 0 → ∃ en' ∈ (zasm en e).toList, zEn en' r := by
    intro e y h1 h2
    obtain ⟨en', h3, h4⟩ := zasm_ok hE h1 h2
    rw [h3]
    exact ⟨en', by simp, h4⟩
  cases cd with
  | lt => exact one (zE_ac (c := 1) hx) (by simp only [zcd] at hc; omega)
  | le => exact one hx hc
  | gt => exact one (zE_ac (c := 1) (zE_neg hx)) (by simp only [zcd] at hc; omega)
  | ge => exact one (zE_neg hx) (by simp only [zcd] at hc; omega)
  | eq =>
    have hc : x = 0 := hc
    obtain ⟨en', h3, h4⟩ := zasms_ok (es := [d, zneg d]) hE (by
      intro e he
      simp only [List.mem_cons, List.not_mem_nil, or_false] at he
      rcases he with rfl | rfl
      · exact ⟨x, hx, by omega⟩
      · exact ⟨-x, zE_neg hx, by omega⟩)
    refine ⟨en', ?_, h4⟩
    simp only [zbr, h3, Option.toList, List.mem_singleton]
  | ne =>
    have hc : x ≠ 0 := hc
    simp only [zbr]
    split
    · rename_i h0
      rw [cond_eq_ite]
      split
      · rename_i hq
        have e0 := zeq_iff.mp hq
        obtain ⟨y, h1, rfl⟩ := hx
        rw [h0] at h1
        cases h1
        omega
      · exact ⟨en, List.mem_singleton_self _, hE⟩
    · rcases Int.lt_or_gt_of_ne hc with hl | hg
      · obtain ⟨a, h3, h4⟩ := zasm_ok hE (zE_ac (c := 1) hx) (by omega)
        rw [h3]
        split
        · rename_i q _; cases q
        · rename_i q _; cases q
        · rename_i q _; cases q; exact ⟨_, List.mem_singleton_self _, h4⟩
        · rename_i q _; cases q
          rw [cond_eq_ite]
          split
          · exact ⟨_, List.mem_cons_self .., h4⟩
          · exact ⟨en, List.mem_singleton_self _, hE⟩
      · obtain ⟨b, h3, h4⟩ := zasm_ok hE (zE_ac (c := 1) (zE_neg hx)) (by omega)
        rw [h3]
        split
        · rename_i q; cases q
        · rename_i q; cases q; exact ⟨_, List.mem_singleton_self _, h4⟩
        · rename_i q; cases q
        · rename_i q; cases q
          rw [cond_eq_ite]
          split
          · exact ⟨_, List.mem_cons_of_mem _ (List.mem_singleton_self _), h4⟩
          · exact ⟨en, List.mem_singleton_self _, hE⟩
