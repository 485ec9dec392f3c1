/-! the operations on ints -/
section EO
variable {xs : Nat → Int32} {v w r : eV} {x y : Value}
theorem fa_and (a b : Nat) : nI a &&& nI b = nI (a &&& b) := by
  apply Int32.toBitVec_inj.1
  show BitVec.ofNat 32 a &&& BitVec.ofNat 32 b = BitVec.ofNat 32 (a &&& b)
  apply BitVec.eq_of_getLsbD_eq
  intro i hi
  simp [hi]
theorem fa_or (a b : Nat) : nI a ||| nI b = nI (a ||| b) := by
  apply Int32.toBitVec_inj.1
  show BitVec.ofNat 32 a ||| BitVec.ofNat 32 b = BitVec.ofNat 32 (a ||| b)
  apply BitVec.eq_of_getLsbD_eq
  intro i hi
  simp [hi]
theorem eany2_ok (g : Int32 → Int32 → Int32) (h : eany2 v w = some r) (hx : eR xs v x) (hy : eR xs w y) : ∃ a b : Int32, x = .int a ∧ y = .int b ∧ eR xs r (.int (g a b)) := by
  simp only [eany2, cond_eq_ite, Bool.and_eq_true] at h
  split at h
  · rename_i hi
    cases h
    obtain ⟨a, rfl⟩ := eR_int hi.1 hx
    obtain ⟨b, rfl⟩ := eR_int hi.2 hy
    exact ⟨a, b, rfl, rfl, eR_any _⟩
  · cases h
theorem eadd_ok (h : eadd v w = some r) (hx : eR xs v x) (hy : eR xs w y) : ∃ a b : Int32, x = .int a ∧ y = .int b ∧ eR xs r (.int (a + b)) := by
  unfold eadd at h
  split at h
  · cases h
    obtain ⟨a, rfl, rfl⟩ := hx
    obtain ⟨b, rfl, rfl⟩ := hy
    exact ⟨a, b, rfl, rfl, _, rfl, eb_add a b⟩
  · simp only [cond_eq_ite] at h
    split at h
    · rename_i hi
      obtain ⟨a, rfl, rfl⟩ := hx
      obtain ⟨b, rfl⟩ := eR_int hi hy
      refine ⟨a, b, rfl, rfl, ?_⟩
      cases h
      split
      · rename_i hz
        have hz := Nat.eq_of_beq_eq_true hz
        have : a = 0 := eb_inj (hz.trans eb_zero.symm)
        rw [this, Int32.zero_add]
        exact hy
      · exact eR_any _
    · cases h
  · simp only [cond_eq_ite] at h
    split at h
    · rename_i hi
      obtain ⟨b, rfl, rfl⟩ := hy
      obtain ⟨a, rfl⟩ := eR_int hi hx
      refine ⟨a, b, rfl, rfl, ?_⟩
      cases h
      split
      · rename_i hz
        have hz := Nat.eq_of_beq_eq_true hz
        have : b = 0 := eb_inj (hz.trans eb_zero.symm)
        rw [this, Int32.add_zero]
        exact hx
      · exact eR_any _
    · cases h
  · simp only [cond_eq_ite, Bool.and_eq_true] at h
    split at h
    · rename_i hi
      cases h
      obtain ⟨a, rfl⟩ := eR_int hi.1 hx
      obtain ⟨b, rfl⟩ := eR_int hi.2 hy
      exact ⟨a, b, rfl, rfl, eR_any _⟩
    · cases h
theorem esub_ok (h : esub v w = some r) (hx : eR xs v x) (hy : eR xs w y) : ∃ a b : Int32, x = .int a ∧ y = .int b ∧ eR xs r (.int (a - b)) := by
  unfold esub at h
  split at h
  · cases h
    obtain ⟨a, rfl, rfl⟩ := hx
    obtain ⟨b, rfl, rfl⟩ := hy
    exact ⟨a, b, rfl, rfl, _, rfl, eb_sub a b⟩
  · simp only [cond_eq_ite, Bool.and_eq_true] at h
    split at h
    · rename_i hi
      cases h
      obtain ⟨a, rfl⟩ := eR_int hi.1 hx
      obtain ⟨b, rfl⟩ := eR_int hi.2 hy
      exact ⟨a, b, rfl, rfl, eR_any _⟩
    · cases h
theorem enn_ok {g : Nat → Nat → Nat} {G : Int32 → Int32 → Int32} (hG : ∀ a b : Nat, G (nI a) (nI b) = nI (g a b)) (h : enn g v w = some r) (hx : eR xs v x) (hy : eR xs w y) : ∃ a b : Int32, x = .int a ∧ y = .int b ∧ eR xs r (.int (G a b)) := by
  unfold enn at h
  split at h
  · obtain ⟨a, rfl, rfl⟩ := hx
    obtain ⟨b, rfl, rfl⟩ := hy
    refine ⟨a, b, rfl, rfl, ?_⟩
    simp only [cond_eq_ite, Bool.and_eq_true, Option.some.injEq] at h
    split at h
    · rename_i hc
      obtain ⟨h1, h2, h3⟩ := hc
      subst h
      have e1 := eb_non (e_ble.mp h1)
      have e2 := eb_non (e_ble.mp h2)
      have h3 := e_blt.mp h3
      refine ⟨_, rfl, ?_⟩
      have e3 : G a b = nI (g (eb a - 2147483648) (eb b - 2147483648)) := by
        rw [← hG, ← e1.1, ← e2.1]
      rw [e3, eb_nI h3]
    · subst h
      exact eR_any _
  · simp only [cond_eq_ite, Bool.and_eq_true] at h
    split at h
    · rename_i hi
      cases h
      obtain ⟨a, rfl⟩ := eR_int hi.1 hx
      obtain ⟨b, rfl⟩ := eR_int hi.2 hy
      exact ⟨a, b, rfl, rfl, eR_any _⟩
    · cases h
theorem eand_ok (h : eand v w = some r) (hx : eR xs v x) (hy : eR xs w y) : ∃ a b : Int32, x = .int a ∧ y = .int b ∧ eR xs r (.int (a &&& b)) := by
  unfold eand at h
  split at h
  · rename_i i b
    obtain ⟨b', rfl, rfl⟩ := hy
    refine ⟨_, b', hx, rfl, ?_⟩
    simp only [cond_eq_ite, Bool.and_eq_true, Option.some.injEq] at h
    split at h
    · rename_i hc
      subst h
      have h1 := e_blt.mp hc.1
      have h2 : b' = 63 := eb_inj ((Nat.eq_of_beq_eq_true hc.2).trans (by decide +kernel))
      subst h2
      show Value.int _ = Value.int (erho xs (i + 6))
      congr 1
      unfold erho
      rw [if_pos h1, if_neg (by omega), if_pos (by omega), Nat.add_sub_cancel]
    · subst h
      exact eR_any _
  · exact enn_ok (G := fun a b => a &&& b) fa_and h hx hy
theorem edv_ok {g : Nat → Nat → Nat} {G : Int32 → Int32 → Int32} (hG : ∀ a b : Nat, a < 2 ^ 31 → 0 < b → b < 2 ^ 31 → G (nI a) (nI b) = nI (g a b)) (hg : ∀ a b : Nat, g a b ≤ a) (h : edv g v w = some r) (hx : eR xs v x) (hy : eR xs w y) : ∃ a b : Int32, x = .int a ∧ y = .int b ∧ ¬ b = 0 ∧ eR xs r (.int (G a b)) := by
  unfold edv at h
  split at h
  · simp only [cond_eq_ite] at h
    obtain ⟨b, rfl, rfl⟩ := hy
    split at h
    · rename_i hb
      have hb := e_blt.mp hb
      have hb0 : ¬ b = 0 := fun q => by rw [q, eb_zero] at hb; omega
      have e2 := eb_non (Nat.le_of_lt hb)
      split at h
      · obtain ⟨a, rfl, rfl⟩ := hx
        refine ⟨a, b, rfl, rfl, hb0, ?_⟩
        simp only [Option.some.injEq] at h
        split at h
        · rename_i ha
          subst h
          have e1 := eb_non (e_ble.mp ha)
          refine ⟨_, rfl, ?_⟩
          have e3 : G a b = nI (g (eb a - 2147483648) (eb b - 2147483648)) := by
            rw [← hG _ _ (by omega) (by omega) (by omega), ← e1.1, ← e2.1]
          have := hg (eb a - 2147483648) (eb b - 2147483648)
          rw [e3, eb_nI (by omega)]
        · subst h
          exact eR_any _
      · split at h
        · rename_i hi
          cases h
          obtain ⟨a, rfl⟩ := eR_int hi hx
          exact ⟨a, b, rfl, rfl, hb0, eR_any _⟩
        · cases h
    · cases h
  · cases h
theorem emm_ok {g : Nat → Nat → Nat} {G : Int32 → Int32 → Int32} (hG : ∀ a b : Int32, eb (G a b) = g (eb a) (eb b)) (h : emm g v w = some r) (hx : eR xs v x) (hy : eR xs w y) : ∃ a b : Int32, x = .int a ∧ y = .int b ∧ eR xs r (.int (G a b)) := by
  unfold emm at h
  split at h
  · cases h
    obtain ⟨a, rfl, rfl⟩ := hx
    obtain ⟨b, rfl, rfl⟩ := hy
    exact ⟨a, b, rfl, rfl, _, rfl, hG a b⟩
  · simp only [cond_eq_ite, Bool.and_eq_true] at h
    split at h
    · rename_i hi
      cases h
      obtain ⟨a, rfl⟩ := eR_int hi.1 hx
      obtain ⟨b, rfl⟩ := eR_int hi.2 hy
      exact ⟨a, b, rfl, rfl, eR_any _⟩
    · cases h
theorem eb_max (a b : Int32) : eb (if a < b then b else a) = (bif Nat.blt (eb a) (eb b) then eb b else eb a) := by
  by_cases h : a < b
  · rw [if_pos h, e_blt.mpr (eb_lt_iff.mp h)]; rfl
  · rw [if_neg h]
    cases hq : Nat.blt (eb a) (eb b) with
    | false => rfl
    | true => exact absurd (eb_lt_iff.mpr (e_blt.mp hq)) h
theorem eb_min (a b : Int32) : eb (if b < a then b else a) = (bif Nat.blt (eb b) (eb a) then eb b else eb a) := by
  by_cases h : b < a
  · rw [if_pos h, e_blt.mpr (eb_lt_iff.mp h)]; rfl
  · rw [if_neg h]
    cases hq : Nat.blt (eb b) (eb a) with
    | false => rfl
    | true => exact absurd (eb_lt_iff.mpr (e_blt.mp hq)) h
theorem efit_ok {ty : FieldType} (h : efit ty v = true) (hx : eR xs v x) : mi_fit ty x = true := by
  unfold efit at h
  split at h
  · obtain ⟨a, rfl⟩ := eR_int h hx; rfl
  · split at h
    · obtain ⟨a, rfl, rfl⟩ := hx
      simp only [Bool.or_eq_true] at h
      rcases h with h | h
      · have : a = 0 := eb_inj ((Nat.eq_of_beq_eq_true h).trans eb_zero.symm)
        subst this; rfl
      · have : a = 1 := eb_inj ((Nat.eq_of_beq_eq_true h).trans (by decide +kernel))
        subst this; rfl
    · cases h
  · split at h
    · rw [show x = _ from hx]; rfl
    · cases h
  · split at h
    · rw [show x = _ from hx]; rfl
    · cases h
  · split at h
    · rw [show x = _ from hx]; rfl
    · cases h
  · cases h
end EO
