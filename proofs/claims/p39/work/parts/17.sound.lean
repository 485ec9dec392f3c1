/-! the executor is sound, instruction by instruction -/
section ES
variable {P : mP} {S : Nat × (Nat → Int32)} {D m pc : Nat} {l : List (Nat × eV)} {st : List eV} {fr : List eF} {n : Nat} {t : eTr} {en : eEn} {ss : List eS}
theorem eb_cmp (cd : Jvm.ClassFile.Cond) (x y : Int32) : mi_cond cd x y = ecmp cd (eb x) (eb y) := by
  cases cd
  · show decide (x = y) = Nat.beq (eb x) (eb y)
    rw [e_beq]; exact decide_eq_decide.mpr eb_eq_iff
  · show decide (¬ x = y) = !Nat.beq (eb x) (eb y)
    rw [e_beq]
    by_cases h : x = y
    · subst h; simp
    · have h2 : ¬ eb x = eb y := fun q => h (eb_inj q)
      simp [h, h2]
  · show decide (x < y) = Nat.blt (eb x) (eb y)
    by_cases h : x < y
    · rw [decide_eq_true h, Nat.blt_eq.mpr (eb_lt_iff.mp h)]
    · rw [decide_eq_false h]
      cases hq : Nat.blt (eb x) (eb y) with
      | false => rfl
      | true => exact absurd (eb_lt_iff.mpr (Nat.blt_eq.mp hq)) h
  · show decide (y ≤ x) = Nat.ble (eb y) (eb x)
    by_cases h : y ≤ x
    · rw [decide_eq_true h, Nat.ble_eq.mpr (eb_le_iff.mp h)]
    · rw [decide_eq_false h]
      cases hq : Nat.ble (eb y) (eb x) with
      | false => rfl
      | true => exact absurd (eb_le_iff.mpr (Nat.ble_eq.mp hq)) h
  · show decide (y < x) = Nat.blt (eb y) (eb x)
    by_cases h : y < x
    · rw [decide_eq_true h, Nat.blt_eq.mpr (eb_lt_iff.mp h)]
    · rw [decide_eq_false h]
      cases hq : Nat.blt (eb y) (eb x) with
      | false => rfl
      | true => exact absurd (eb_lt_iff.mpr (Nat.blt_eq.mp hq)) h
  · show decide (x ≤ y) = Nat.ble (eb x) (eb y)
    by_cases h : x ≤ y
    · rw [decide_eq_true h, Nat.ble_eq.mpr (eb_le_iff.mp h)]
    · rw [decide_eq_false h]
      cases hq : Nat.ble (eb x) (eb y) with
      | false => rfl
      | true => exact absurd (eb_le_iff.mpr (Nat.ble_eq.mp hq)) h
theorem e_ble {a b : Nat} : Nat.ble a b = true ↔ a ≤ b := by rw [Nat.ble_eq]
theorem e_blt {a b : Nat} : Nat.blt a b = true ↔ a < b := by rw [Nat.blt_eq]
theorem eref_ok {cd : Jvm.ClassFile.Cond} {lo hi c x : Nat} (h1 : lo ≤ x) (h2 : x ≤ hi) (h : ecmp cd x c = true) : ∃ iv ∈ eref cd lo hi c, iv.1 ≤ x ∧ x ≤ iv.2 := by
  cases cd <;> simp only [ecmp, Nat.beq_eq, e_blt, e_ble, Bool.not_eq_true'] at h
  · subst h
    simp only [eref, cond_eq_ite, Bool.and_eq_true, e_ble, h1, h2, and_self, if_true]
    exact ⟨_, List.mem_singleton_self _, Nat.le_refl _, Nat.le_refl _⟩
  · have hne : x ≠ c := fun q => by rw [q, Nat.beq_refl] at h; cases h
    simp only [eref, eiv, cond_eq_ite, e_ble, e_blt]
    rcases Nat.lt_or_gt_of_ne hne with q | q
    · by_cases hc : c ≤ hi
      · refine ⟨(lo, c - 1), ?_, by simp only; omega, by simp only; omega⟩
        rw [if_pos hc, if_pos (by omega)]
        simp
      · refine ⟨(lo, hi), ?_, h1, h2⟩
        rw [if_neg hc]
        simp
    · by_cases hc : lo ≤ c
      · refine ⟨(c + 1, hi), ?_, by simp only; omega, by simp only; omega⟩
        rw [if_pos hc, if_pos (show c + 1 ≤ hi by omega)]
        simp
      · refine ⟨(lo, hi), ?_, h1, h2⟩
        rw [if_neg hc]
        simp
  · simp only [eref, cond_eq_ite, e_ble, e_blt]
    by_cases hc : c ≤ hi
    · rw [if_pos hc, if_pos (by omega)]
      exact ⟨_, List.mem_singleton_self _, by simp only; omega, by simp only; omega⟩
    · rw [if_neg hc]
      exact ⟨_, List.mem_singleton_self _, h1, h2⟩
  · simp only [eref, eiv, cond_eq_ite, e_ble]
    by_cases hc : lo ≤ c
    · rw [if_pos hc, if_pos (by omega)]
      exact ⟨_, List.mem_singleton_self _, by simp only; omega, by simp only; omega⟩
    · rw [if_neg hc]
      exact ⟨_, List.mem_singleton_self _, h1, h2⟩
  · simp only [eref, eiv, cond_eq_ite, e_ble]
    by_cases hc : lo ≤ c
    · rw [if_pos hc, if_pos (by omega)]
      exact ⟨_, List.mem_singleton_self _, by simp only; omega, by simp only; omega⟩
    · rw [if_neg hc]
      exact ⟨_, List.mem_singleton_self _, h1, h2⟩
  · simp only [eref, eiv, cond_eq_ite, e_ble]
    by_cases hc : c ≤ hi
    · rw [if_pos hc, if_pos (by omega)]
      exact ⟨_, List.mem_singleton_self _, by simp only; omega, by simp only; omega⟩
    · rw [if_neg hc]
      exact ⟨_, List.mem_singleton_self _, h1, h2⟩
theorem e_blt_ble (a b : Nat) : Nat.blt a b = !Nat.ble b a := by
  cases h : Nat.ble b a with
  | true =>
    have h1 := e_ble.mp h
    cases h2 : Nat.blt a b with
    | false => rfl
    | true =>
      have h3 := e_blt.mp h2
      omega
  | false =>
    have h1 : ¬ b ≤ a := fun q => by
      rw [e_ble.mpr q] at h
      cases h
    exact e_blt.mpr (by omega)
theorem e_blt_self (a : Nat) : Nat.blt a a = false := by rw [e_blt_ble, e_ble.mpr (Nat.le_refl a)]; rfl
theorem ecmp_neg (cd : Jvm.ClassFile.Cond) (a b : Nat) : ecmp (eneg cd) a b = !ecmp cd a b := by
  cases cd <;> simp only [eneg, ecmp, Bool.not_not]
  · rw [e_blt_ble, Bool.not_not]
  · rw [e_blt_ble]
  · rw [e_blt_ble, Bool.not_not]
  · rw [e_blt_ble]
theorem e_beq_comm (a b : Nat) : (a == b) = (b == a) := by
  by_cases h : a = b
  · subst h; rfl
  · rw [beq_eq_false_iff_ne.mpr h, beq_eq_false_iff_ne.mpr (Ne.symm h)]
theorem ecmp_swp (cd : Jvm.ClassFile.Cond) (a b : Nat) : ecmp (eswp cd) a b = ecmp cd b a := by
  cases cd <;> simp only [eswp, ecmp, e_beq]
  · exact e_beq_comm a b
  · rw [e_beq_comm a b]
theorem ebrS_ok {cd : Jvm.ClassFile.Cond} {i c : Nat} (he : eEv S.2 en) : ∃ q ∈ ebrS cd i c en, q.1 = ecmp cd (eb (erho S.2 i)) c ∧ eEv S.2 q.2 := by
  unfold ebrS
  cases hq : en[i]? with
  | none =>
    cases hb : ecmp cd (eb (erho S.2 i)) c
    · exact ⟨(false, en), by simp, rfl, he⟩
    · exact ⟨(true, en), by simp, rfl, he⟩
  | some q =>
    obtain ⟨lo, hi⟩ := q
    obtain ⟨b1, b2⟩ := he i lo hi hq
    simp only
    cases hb : ecmp cd (eb (erho S.2 i)) c
    · obtain ⟨iv, hm, h1, h2⟩ := eref_ok (cd := eneg cd) (c := c) b1 b2 (by rw [ecmp_neg, hb]; rfl)
      exact ⟨(false, en.set i iv), List.mem_append_right _ (List.mem_map.mpr ⟨iv, hm, rfl⟩), rfl, eEv_set he h1 h2⟩
    · obtain ⟨iv, hm, h1, h2⟩ := eref_ok (cd := cd) (c := c) b1 b2 hb
      exact ⟨(true, en.set i iv), List.mem_append_left _ (List.mem_map.mpr ⟨iv, hm, rfl⟩), rfl, eEv_set he h1 h2⟩
theorem ebr_ok {cd : Jvm.ClassFile.Cond} {v w : eV} {bs : List (Bool × eEn)} {x y : Value} (he : eEv S.2 en) (hb : ebr cd v w en = some bs) (hx : eR S.2 v x) (hy : eR S.2 w y) : ∃ a b : Int32, x = .int a ∧ y = .int b ∧ ∃ q ∈ bs, q.1 = mi_cond cd a b ∧ eEv S.2 q.2 := by
  unfold ebr at hb
  split at hb
  · cases hb
    obtain ⟨a, rfl, ha⟩ := hx
    obtain ⟨b, rfl, hb⟩ := hy
    exact ⟨a, b, rfl, rfl, _, List.mem_singleton_self _, by rw [eb_cmp, ha, hb], he⟩
  · cases hb
    obtain ⟨b, rfl, hb⟩ := hy
    subst hb
    obtain ⟨q, h1, h2, h3⟩ := ebrS_ok (S := S) (cd := cd) (i := _) (c := eb b) he
    exact ⟨_, b, hx, rfl, q, h1, by rw [eb_cmp]; exact h2, h3⟩
  · cases hb
    obtain ⟨a, rfl, ha⟩ := hx
    subst ha
    obtain ⟨q, h1, h2, h3⟩ := ebrS_ok (S := S) (cd := eswp cd) (i := _) (c := eb a) he
    exact ⟨a, _, rfl, hy, q, h1, by rw [eb_cmp, ← ecmp_swp]; exact h2, h3⟩
  · rename_i i j
    cases hb
    refine ⟨_, _, hx, hy, ?_⟩
    simp only [cond_eq_ite]
    split
    · rename_i hij
      have hij := Nat.eq_of_beq_eq_true hij
      subst hij
      refine ⟨_, List.mem_singleton_self _, ?_, he⟩
      simp only [eb_cmp]
      cases cd <;> simp only [ecmp, Nat.beq_refl, e_blt_self, e_ble.mpr (Nat.le_refl _)]
    · cases hb2 : mi_cond cd (erho S.2 i) (erho S.2 j)
      · exact ⟨(false, en), by simp, rfl, he⟩
      · exact ⟨(true, en), by simp, rfl, he⟩
  · rename_i v w _ _ _ _
    simp only [cond_eq_ite] at hb
    split at hb
    · rename_i hi
      simp only [Bool.and_eq_true] at hi
      cases hb
      obtain ⟨a, rfl⟩ := eR_int hi.1 hx
      obtain ⟨b, rfl⟩ := eR_int hi.2 hy
      refine ⟨a, b, rfl, rfl, ?_⟩
      cases hb2 : mi_cond cd a b
      · exact ⟨(false, en), by simp, rfl, he⟩
      · exact ⟨(true, en), by simp, rfl, he⟩
    · cases hb
end ES
