/-! what the executor's values and cells stand for -/
def eb (x : Int32) : Nat := (x.toInt + 2147483648).toNat
theorem eb_int (x : Int32) : ((eb x : Nat) : Int) = x.toInt + 2147483648 := by
  have h1 := Int32.minValue_le_toInt x
  have h2 := Int32.le_toInt x
  unfold eb
  omega
theorem eb_lt (x : Int32) : eb x < 4294967296 := by
  have h1 := eb_int x
  have h2 := Int32.toInt_lt x
  omega
theorem eb_inj {x y : Int32} (h : eb x = eb y) : x = y := by
  apply Int32.toInt_inj.mp
  have h1 := eb_int x
  have h2 := eb_int y
  omega
theorem eb_lt_iff {x y : Int32} : x < y ↔ eb x < eb y := by
  rw [Int32.lt_iff_toInt_lt]
  have h1 := eb_int x
  have h2 := eb_int y
  omega
theorem eb_le_iff {x y : Int32} : x ≤ y ↔ eb x ≤ eb y := by
  rw [Int32.le_iff_toInt_le]
  have h1 := eb_int x
  have h2 := eb_int y
  omega
theorem eb_eq_iff {x y : Int32} : x = y ↔ eb x = eb y := ⟨fun h => by rw [h], eb_inj⟩
theorem eb_ofInt (c : Int) : eb (Int32.ofInt c) = ecst c := by
  have h := eb_int (Int32.ofInt c)
  rw [Int32.toInt_ofInt, Int.bmod_def] at h
  unfold ecst
  simp only [Int32.size] at h
  split at h <;> omega
theorem eb_add (x y : Int32) : eb (x + y) = (eb x + eb y + 2147483648) % 4294967296 := by
  have h := eb_int (x + y)
  have h1 := eb_int x
  have h2 := eb_int y
  rw [Int32.toInt_add, Int.bmod_def] at h
  split at h <;> omega
theorem eb_sub (x y : Int32) : eb (x - y) = (eb x + 6442450944 - eb y) % 4294967296 := by
  have h := eb_int (x - y)
  have h1 := eb_int x
  have h2 := eb_int y
  have h3 := eb_lt y
  rw [Int32.toInt_sub, Int.bmod_def] at h
  split at h <;> omega
theorem eb_nI {n : Nat} (h : n < 2147483648) : eb (nI n) = n + 2147483648 := by
  have h1 := eb_int (nI n)
  rw [nI_toInt (by omega)] at h1
  omega
theorem eb_non {x : Int32} (h : 2147483648 ≤ eb x) : x = nI (eb x - 2147483648) ∧ eb x - 2147483648 < 2147483648 := by
  have h1 := eb_lt x
  refine ⟨?_, by omega⟩
  apply eb_inj
  rw [eb_nI (by omega)]
  omega
theorem eb_zero : eb 0 = 2147483648 := by decide +kernel
theorem eb_clamp {x : Int32} (h : 2147483648 ≤ eb x) : x.toNatClampNeg = eb x - 2147483648 := by
  have h1 := eb_int x
  show x.toInt.toNat = _
  omega
/-- what the i-th of the bounds speaks of: the script's ints, and these below 64 -/
def erho (xs : Nat → Int32) (i : Nat) : Int32 := if i < 6 then xs i else if i < 12 then xs (i - 6) &&& 63 else 0
def eR (xs : Nat → Int32) (v : eV) (x : Value) : Prop := match v with
  | .inl c => ∃ y : Int32, x = .int y ∧ eb y = c
  | .inr (.inl i) => x = .int (erho xs i)
  | .inr (.inr (.inl r)) => x = .ref r
  | .inr (.inr (.inr (.inl n))) => x = .long (Int64.ofNat n)
  | .inr (.inr (.inr (.inr _))) => ∃ y : Int32, x = .int y
def eSt (xs : Nat → Int32) : List eV → List Value → Prop
  | [], st => st = []
  | v :: vs, st => ∃ x st', st = x :: st' ∧ eR xs v x ∧ eSt xs vs st'
def eLo (xs : Nat → Int32) : List (Nat × eV) → List (Nat × Value) → Prop
  | [], l => l = []
  | q :: qs, l => ∃ x l', l = (q.1, x) :: l' ∧ eR xs q.2 x ∧ eLo xs qs l'
def eEv (xs : Nat → Int32) (en : eEn) : Prop := ∀ i lo hi, en[i]? = some (lo, hi) → lo ≤ eb (erho xs i) ∧ eb (erho xs i) ≤ hi
def eK (xs : Nat → Int32) (ce : eC) (c : mC) : Prop := ce.1 = 99 ∨ (match c with
  | .inl (t, n, .inl g) => ce.1 = t ∧ t < 3 ∧ ce.2.1 = n ∧ ∀ j v, elk ce j = some v → eR xs v (.int (g j))
  | .inl (t, n, .inr (.inl g)) => ce.1 = t ∧ t = 3 ∧ ce.2.1 = n ∧ ∀ j v, elk ce j = some v → eR xs v (.long (g j))
  | .inl (t, n, .inr (.inr g)) => ce.1 = t ∧ t = 4 ∧ ce.2.1 = n ∧ ∀ j v, elk ce j = some v → ∃ r, g j = some r ∧ eR xs v (.ref r)
  | .inr (ci, fs) => ce.1 = ci + 100 ∧ ce.2.1 = fs.length ∧ ∀ j v, elk ce j = some v → ∃ x, fs[j]? = some x ∧ eR xs v x)
def eHp (xs : Nat → Int32) (n : Nat) (t : eTr) (h : mH) : Prop := h.length = n ∧ ∀ k ce, eget t k = some ce → ∃ c, mi_c h k = some c ∧ eK xs ce c
def eFs (xs : Nat → Int32) : List eF → List (Nat × mF) → Prop
  | [], fs => fs = []
  | (m, pc, l, st) :: es, fs => ∃ l0 st0 fs', fs = (m, pc, l0, st0) :: fs' ∧ eLo xs l l0 ∧ eSt xs st st0 ∧ eFs xs es fs'
def eRS (xs : Nat → Int32) (s : eS) (fs : List (Nat × mF)) (h : mH) : Prop := eFs xs s.1 fs ∧ eHp xs s.2.1 s.2.2.1 h ∧ eEv xs s.2.2.2
/-- the frames below go on with an answer; the last one answers 1 -/
def eKs (P : mP) (S : Nat × (Nat → Int32)) (D : Nat) : List (Nat × mF) → Option Value → mH → Prop
  | [], r, h => r = some (.int 1) ∧ h.length ≤ 600
  | (m, f) :: fr, r, h => mi_T P S (D - fr.length) m (f.1, f.2.1, r.toList ++ f.2.2) h (eKs P S D fr)
def eKK (P : mP) (S : Nat × (Nat → Int32)) (D : Nat) : List (Nat × mF) → mH → Prop
  | [], _ => False
  | (m, f) :: fr, h => mi_T P S (D - fr.length) m f h (eKs P S D fr)
/-- every run from what the state stands for ends, and answers 1 -/
def eG (P : mP) (S : Nat × (Nat → Int32)) (D : Nat) (s : eS) : Prop := ∀ fs h, eRS S.2 s fs h → eKK P S D fs h
section ER
variable {xs : Nat → Int32}
theorem eR_int {v : eV} {x : Value} (hi : eisI v = true) (h : eR xs v x) : ∃ y : Int32, x = .int y := by
  match v, hi, h with
  | .inl c, _, ⟨y, h, _⟩ => exact ⟨y, h⟩
  | .inr (.inl i), _, h => exact ⟨_, h⟩
  | .inr (.inr (.inr (.inr _))), _, h => exact h
theorem eR_any (y : Int32) : eR xs eanyv (.int y) := ⟨y, rfl⟩
theorem eR_cat {v : eV} {x : Value} (h : eR xs v x) : x.category = ecat v := by
  match v, h with
  | .inl c, ⟨y, h, _⟩ => subst h; rfl
  | .inr (.inl i), h => rw [show x = _ from h]; rfl
  | .inr (.inr (.inl r)), h => rw [show x = _ from h]; rfl
  | .inr (.inr (.inr (.inl n))), h => rw [show x = _ from h]; rfl
  | .inr (.inr (.inr (.inr _))), ⟨y, h⟩ => subst h; rfl
theorem ecn_eb {en : eEn} {v : eV} {y : Int32} {c : Nat} (he : eEv xs en) (hc : ecn en v = some c) (h : eR xs v (.int y)) : eb y = c := by
  match v, hc, h with
  | .inl c', hc, ⟨y', h, hb⟩ => cases h; cases hc; exact hb
  | .inr (.inl i), hc, h =>
    have h : y = erho xs i := by cases h; rfl
    simp only [ecn] at hc
    cases hq : en[i]? with
    | none => rw [hq] at hc; cases hc
    | some q =>
      obtain ⟨lo, hi⟩ := q
      rw [hq] at hc
      simp only [cond_eq_ite] at hc
      split at hc
      · rename_i hb
        have h1 := he i lo hi hq
        have h2 := Nat.eq_of_beq_eq_true hb
        have h3 : lo = c := Option.some.inj hc
        rw [h]
        omega
      · cases hc
  | .inr (.inr (.inl r)), hc, h => cases hc
  | .inr (.inr (.inr (.inl n))), hc, h => cases hc
  | .inr (.inr (.inr (.inr _))), hc, h => cases hc
theorem ecn_int {en : eEn} {v : eV} {c : Nat} {x : Value} (hc : ecn en v = some c) (h : eR xs v x) : ∃ y : Int32, x = .int y := by
  match v, hc, h with
  | .inl c', hc, ⟨y', h, hb⟩ => exact ⟨y', h⟩
  | .inr (.inl i), hc, h => exact ⟨_, h⟩
  | .inr (.inr (.inl r)), hc, h => cases hc
  | .inr (.inr (.inr (.inl n))), hc, h => cases hc
  | .inr (.inr (.inr (.inr _))), hc, h => cases hc
theorem enrm_R {en : eEn} {v : eV} {x : Value} (he : eEv xs en) (h : eR xs v x) : eR xs (enrm en v) x := by
  unfold enrm
  split
  · rename_i c hc
    obtain ⟨y, rfl⟩ := ecn_int hc h
    exact ⟨y, rfl, ecn_eb he hc h⟩
  · exact h
theorem efind_eput (l : List (Nat × eV)) (j k : Nat) (v : eV) : efind (eput l j v) k = if j = k then some v else efind l k := by
  induction l with
  | nil =>
    simp only [eput, efind]
    by_cases h : j = k
    · subst h; simp
    · rw [if_neg h, cond_eq_ite, if_neg (fun q => h (Nat.eq_of_beq_eq_true q))]
  | cons a t ih =>
    obtain ⟨i, w⟩ := a
    simp only [eput]
    by_cases hij : i = j
    · subst hij
      rw [show Nat.beq i i = true from Nat.beq_refl i]
      simp only [cond_true, efind]
      by_cases h : i = k
      · subst h; simp
      · rw [if_neg h]
        simp only [cond_eq_ite, if_neg (show ¬ Nat.beq i k = true from fun q => h (Nat.eq_of_beq_eq_true q))]
    · rw [show Nat.beq i j = false from by cases hq : Nat.beq i j with | false => rfl | true => exact absurd (Nat.eq_of_beq_eq_true hq) hij]
      simp only [cond_false, efind]
      by_cases hik : i = k
      · subst hik
        rw [show Nat.beq i i = true from Nat.beq_refl i]
        simp only [cond_true]
        rw [if_neg (fun q => hij q.symm)]
      · rw [show Nat.beq i k = false from by cases hq : Nat.beq i k with | false => rfl | true => exact absurd (Nat.eq_of_beq_eq_true hq) hik]
        simp only [cond_false]
        exact ih
theorem eLo_find {l : List (Nat × eV)} {l0 : List (Nat × Value)} {i : Nat} {v : eV} (h : eLo xs l l0) (hf : efind l i = some v) : ∃ x, mi_lg l0 i = some x ∧ eR xs v x := by
  induction l generalizing l0 with
  | nil => cases hf
  | cons q t ih =>
    obtain ⟨k, w⟩ := q
    obtain ⟨x, l', rfl, h1, h2⟩ := h
    simp only [efind] at hf
    by_cases hk : k = i
    · subst hk
      rw [show Nat.beq k k = true from Nat.beq_refl k] at hf
      cases hf
      exact ⟨x, by simp [mi_lg], h1⟩
    · rw [show Nat.beq k i = false from by cases hq : Nat.beq k i with | false => rfl | true => exact absurd (Nat.eq_of_beq_eq_true hq) hk] at hf
      obtain ⟨x', h3, h4⟩ := ih h2 hf
      refine ⟨x', ?_, h4⟩
      simp only [mi_lg, List.find?_cons, show ((k, x).1 == i) = false from by simpa using hk]
      exact h3
theorem eLo_filter {l : List (Nat × eV)} {l0 : List (Nat × Value)} {pe : Nat × eV → Bool} {pc : Nat × Value → Bool} (hp : ∀ k v x, eR xs v x → pe (k, v) = pc (k, x)) (h : eLo xs l l0) : eLo xs (l.filter pe) (l0.filter pc) := by
  induction l generalizing l0 with
  | nil => rw [show l0 = [] from h]; rfl
  | cons q t ih =>
    obtain ⟨k, w⟩ := q
    obtain ⟨x, l', rfl, h1, h2⟩ := h
    rw [List.filter_cons, List.filter_cons, hp k w x h1]
    split
    · exact ⟨x, _, rfl, h1, ih h2⟩
    · exact ih h2
theorem e_beq (a b : Nat) : Nat.beq a b = (a == b) := by
  cases h : Nat.beq a b with
  | true => rw [Nat.eq_of_beq_eq_true h]; simp
  | false => symm; simpa using fun q => by rw [q, Nat.beq_refl] at h; cases h
theorem eLo_s1 {l : List (Nat × eV)} {l0 : List (Nat × Value)} {i : Nat} {v : eV} {x : Value} (h : eLo xs l l0) (hv : eR xs v x) : eLo xs (es1 l i v) (mi_s1 l0 i x) := by
  refine ⟨x, _, rfl, hv, eLo_filter (fun k w y hw => ?_) h⟩
  simp only [e_beq, eR_cat hw]
theorem eLo_s2 {l : List (Nat × eV)} {l0 : List (Nat × Value)} {i : Nat} {v : eV} {x : Value} (h : eLo xs l l0) (hv : eR xs v x) : eLo xs (es2 l i v) (mi_s2 l0 i x) := by
  refine ⟨x, _, rfl, hv, eLo_filter (fun k w y hw => ?_) h⟩
  simp only [e_beq, eR_cat hw]
theorem eset_get (t : eTr) (k : Nat) (c : eC) (j : Nat) : (eset t k c).get j = (k + 1, c) ∨ ((eset t k c).get j = t.get j ∧ j ≠ k) := by
  induction t with
  | leaf a => exact Or.inl rfl
  | branch p l r hl hr =>
    have e1 : (eset (.branch p l r) k c) = (Nat.ble p k).rec (.branch p (eset l k c) r) (.branch p l (eset r k c)) := rfl
    rw [e1]
    cases hk : Nat.ble p k with
    | false =>
      show ((Lean.RArray.branch p (eset l k c) r).get j = _) ∨ _
      have e2 : (Lean.RArray.branch p (eset l k c) r).get j = (Nat.ble p j).rec ((eset l k c).get j) (r.get j) := rfl
      have e3 : (Lean.RArray.branch p l r).get j = (Nat.ble p j).rec (l.get j) (r.get j) := rfl
      simp only [e2, e3]
      cases hj : Nat.ble p j with
      | false => exact hl
      | true =>
        refine Or.inr ⟨rfl, ?_⟩
        intro q
        rw [q, hk] at hj
        cases hj
    | true =>
      show ((Lean.RArray.branch p l (eset r k c)).get j = _) ∨ _
      have e2 : (Lean.RArray.branch p l (eset r k c)).get j = (Nat.ble p j).rec (l.get j) ((eset r k c).get j) := rfl
      have e3 : (Lean.RArray.branch p l r).get j = (Nat.ble p j).rec (l.get j) (r.get j) := rfl
      simp only [e2, e3]
      cases hj : Nat.ble p j with
      | true => exact hr
      | false =>
        refine Or.inr ⟨rfl, ?_⟩
        intro q
        rw [q, hk] at hj
        cases hj
theorem eset_same (t : eTr) (k : Nat) (c : eC) : (eset t k c).get k = (k + 1, c) := by
  rcases eset_get t k c k with h | ⟨-, h⟩
  · exact h
  · exact absurd rfl h
theorem eget_eset {t : eTr} {k j : Nat} {c ce : eC} (h : eget (eset t k c) j = some ce) : (j = k ∧ ce = c) ∨ (j ≠ k ∧ eget t j = some ce) := by
  by_cases hj : j = k
  · subst hj
    unfold eget at h
    rw [eset_same] at h
    simp only [Nat.beq_refl, cond_true, Option.some.injEq] at h
    exact Or.inl ⟨rfl, h.symm⟩
  · refine Or.inr ⟨hj, ?_⟩
    unfold eget at h ⊢
    rcases eset_get t k c j with q | ⟨q, -⟩
    · rw [q] at h
      simp only [cond_eq_ite] at h
      split at h
      · rename_i hb; exact absurd (Nat.succ.inj (Nat.eq_of_beq_eq_true hb)).symm hj
      · cases h
    · rw [q] at h
      exact h
theorem mi_c_w {h : mH} {k j : Nat} {c c0 : mC} (hk : mi_c h k = some c0) : mi_c (mi_w h k c) j = if j = k then some c else mi_c h j := by
  obtain ⟨h3, hc⟩ := mi_c_of hk
  have hl := (List.getElem?_eq_some_iff.mp hc).1
  unfold mi_c mi_w
  by_cases hj : j = k
  · subst hj
    rw [if_pos rfl, if_pos h3, List.getElem?_set_self hl]
  · rw [if_neg hj]
    by_cases h3j : 6 ≤ j
    · rw [if_pos h3j, if_pos h3j, List.getElem?_set_ne (by omega)]
    · rw [if_neg h3j, if_neg h3j]
theorem eHp_w {n k : Nat} {t : eTr} {h : mH} {ce : eC} {c c0 : mC} (hH : eHp xs n t h) (hk : mi_c h k = some c0) (hK : eK xs ce c) : eHp xs n (eset t k ce) (mi_w h k c) := by
  refine ⟨by rw [mi_w_len]; exact hH.1, fun j cj hj => ?_⟩
  rcases eget_eset hj with ⟨rfl, rfl⟩ | ⟨hne, hj⟩
  · exact ⟨c, by rw [mi_c_w hk, if_pos rfl], hK⟩
  · obtain ⟨c', h1, h2⟩ := hH.2 j cj hj
    exact ⟨c', by rw [mi_c_w hk, if_neg hne]; exact h1, h2⟩
theorem eHp_a {n : Nat} {t : eTr} {h : mH} {ce : eC} {c : mC} (hH : eHp xs n t h) (hK : eK xs ce c) : eHp xs (n + 1) (eset t (n + 6) ce) (h ++ [c]) := by
  have hn := hH.1
  refine ⟨by simp [hn], fun j cj hj => ?_⟩
  rcases eget_eset hj with ⟨rfl, rfl⟩ | ⟨hne, hj⟩
  · refine ⟨c, ?_, hK⟩
    unfold mi_c
    rw [if_pos (by omega), show n + 6 - 6 = h.length by omega]
    simp
  · obtain ⟨c', h1, h2⟩ := hH.2 j cj hj
    refine ⟨c', ?_, h2⟩
    obtain ⟨h3, hc⟩ := mi_c_of h1
    unfold mi_c
    rw [if_pos h3, List.getElem?_append_left (List.getElem?_eq_some_iff.mp hc).1]
    exact hc
theorem elk_put (ce : eC) (j k : Nat) (v : eV) : elk (ce.1, ce.2.1, ce.2.2.1, eput ce.2.2.2 j v) k = if j = k then some v else elk ce k := by
  unfold elk
  simp only [efind_eput]
  by_cases h : j = k
  · simp [h]
  · simp [h]
theorem eEv_set {en : eEn} {i lo hi : Nat} (h : eEv xs en) (h1 : lo ≤ eb (erho xs i)) (h2 : eb (erho xs i) ≤ hi) : eEv xs (en.set i (lo, hi)) := by
  intro j a b hj
  rw [List.getElem?_set] at hj
  split at hj
  · rename_i hij
    subst hij
    split at hj
    · cases hj; exact ⟨h1, h2⟩
    · cases hj
  · exact h j a b hj
end ER
