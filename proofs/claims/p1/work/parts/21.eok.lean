/-! from the executor's word to the run -/
section EK
variable {P : mP} {S : Nat × (Nat → Int32)} {D : Nat}
theorem eok_ok {stop : eS → Bool} (hstop : ∀ s, stop s = true → eG P S D s) : ∀ (n : Nat) (s : eS), eok P S.1 D stop n s = true → eG P S D s
  | 0, s, h => by cases h
  | n + 1, s, h => by
    simp only [eok, cond_eq_ite] at h
    split at h
    · exact hstop s (by assumption)
    · split at h
      · rename_i ss hs
        exact esound hs fun s' hs' => eok_ok hstop n s' (List.all_eq_true.mp h s' hs')
      · cases h
theorem eok_no {n : Nat} {s : eS} (h : eok P S.1 D (fun _ => false) n s = true) : eG P S D s := eok_ok (fun _ q => by cases q) n s h
theorem eadv_ok : ∀ (k : Nat) (s s' : eS), eadv P S.1 D k s = some s' → eG P S D s' → eG P S D s
  | 0, s, s', h, hg => by cases h; exact hg
  | k + 1, s, s', h, hg => by
    simp only [eadv] at h
    split at h
    · rename_i s1 hs
      exact esound hs fun q hq => by
        rw [List.mem_singleton.mp hq]
        exact eadv_ok k s1 s' h hg
    · cases h
end EK
