/-! WHAT IS SO OF THE CELLS AT EVERY MOMENT: the rules of the house in use can be worked out with a pile of sixty -/
/-- one code, and how high the pile is ahead of it and behind it -/
def zstk (c H H' : Int) : Prop := (c = 126 ∧ 1 ≤ H ∧ H' = H) ∨ (97 ≤ c ∧ c ≤ 122 ∧ H ≤ 59 ∧ H' = H + 1) ∨ (c ≠ 126 ∧ ¬ (97 ≤ c ∧ c ≤ 122) ∧ 2 ≤ H ∧ H' = H - 1)
def zhg (g : Int → Int) (a : Int) : Nat → Int → Prop
  | 0, H => H = 0
  | n + 1, H => ∃ H', zhg g a n H' ∧ zstk (g (a + n)) H' H
theorem zhg_fun {g : Int → Int} {a : Int} : ∀ {n : Nat} {H H' : Int}, zhg g a n H → zhg g a n H' → H = H'
  | 0, H, H', h, h' => by
    have h : H = 0 := h
    have h' : H' = 0 := h'
    omega
  | n + 1, H, H', ⟨K, h1, h2⟩, ⟨K', h3, h4⟩ => by
    have := zhg_fun h1 h3
    subst this
    rcases h2 with h2 | h2 | h2 <;> rcases h4 with h4 | h4 | h4 <;> omega
theorem zhg_pre {g : Int → Int} {a : Int} : ∀ {n : Nat} {H : Int} {i : Nat}, zhg g a n H → i ≤ n → ∃ H', zhg g a i H'
  | 0, H, i, h, hi => by
    have : i = 0 := by omega
    subst this
    exact ⟨H, h⟩
  | n + 1, H, i, h, hi => by
    rcases Nat.lt_or_ge n i with q | q
    · have : i = n + 1 := by omega
      subst this
      exact ⟨H, h⟩
    · obtain ⟨K, h1, -⟩ := h
      exact zhg_pre h1 q
theorem zhg_b {g : Int → Int} {a : Int} : ∀ {n : Nat} {H : Int}, zhg g a n H → 0 ≤ H ∧ H ≤ 60
  | 0, H, h => by
    have h : H = 0 := h
    omega
  | n + 1, H, ⟨K, h1, h2⟩ => by
    have := zhg_b h1
    rcases h2 with h2 | h2 | h2 <;> omega
theorem zhg_eq {g g' : Int → Int} {a : Int} : ∀ {n : Nat} {H : Int}, (∀ j : Int, a ≤ j → j < a + n → g' j = g j) → zhg g a n H → zhg g' a n H
  | 0, H, _, h => h
  | n + 1, H, hg, ⟨K, h1, h2⟩ => by
    refine ⟨K, zhg_eq (fun j a b => hg j a (by omega)) h1, ?_⟩
    rw [hg (a + n) (by omega) (by omega)]
    exact h2
/-- a rule -/
def zsafe (h : mH) (b s : Int) : Prop := ∃ (n : Nat) (H : Int), zI h 487 (4 * b + s) = zI h 486 (4 * b + s) + n ∧ zhg (zI h 490) (zI h 486 (4 * b + s)) n H ∧ 560 * b ≤ zI h 486 (4 * b + s) ∧ zI h 487 (4 * b + s) ≤ 560 * b + 560
def zOm (h : mH) : Prop := zobj h 469 ∧ ∀ s : Int, 0 ≤ s → s < zI h 479 (zI h 469 34) → zsafe h (zI h 469 34) s
noncomputable def zOmw (W : zW) : Bool := (zjs W 490).isEmpty && ((zjs W 486).isEmpty && ((zjs W 487).isEmpty && ((zjs W 479).isEmpty && !(zw W 469 34))))
theorem zOm_st {W : zW} (hw : zOmw W = true) : ∀ h h', zOm h → zsm W h h' → zOm h' := by
  intro h h' ⟨ho, hr⟩ hs
  unfold zOmw at hw
  simp only [Bool.and_eq_true, List.isEmpty_iff, Bool.not_eq_true'] at hw
  obtain ⟨w1, w2, w3, w4, w5⟩ := hw
  have e1 : zI h' 490 = zI h 490 := funext (zI_sm hs w1)
  have e2 : zI h' 486 = zI h 486 := funext (zI_sm hs w2)
  have e3 : zI h' 487 = zI h 487 := funext (zI_sm hs w3)
  have e4 : zI h' 479 = zI h 479 := funext (zI_sm hs w4)
  have e5 : zI h' 469 34 = zI h 469 34 := zI_smf (j := 34) hs ho w5
  refine ⟨zobj_sm hs ho, ?_⟩
  rw [e4, e5]
  intro s h0 h1
  have := hr s h0 h1
  unfold zsafe at this ⊢
  rw [e1, e2, e3]
  exact this
theorem zOm_up {S : Nat × (Nat → Int32)} {ct : zCt} (hw : zOmw ct.2.2.2.2.2.2.1 = true) (h : zCtr mi_P S zTt ct) : zCtr mi_P S zOm ct := zCtr_up (zOm_st hw) h
