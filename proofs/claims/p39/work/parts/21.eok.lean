/-! from the executor's word to the run -/
section EK
variable {P : mP} {S : Nat × (Nat → Int32)} {D : Nat}
theorem eow_ok {stop : eS → Bool} (hstop : ∀ s, stop s = true → eG P S D s) : ∀ (n : Nat) (ss : List eS), eow P S.1 D stop n ss = true → ∀ s ∈ ss, eG P S D s
  | _, [], _ => fun s h => by cases h
  | 0, s :: r, h => by cases h
  | n + 1, s :: r, h => by
    simp only [eow, cond_eq_ite] at h
    split at h
    · rename_i hs
      have ih := eow_ok hstop n r h
      intro q hq
      rcases List.mem_cons.mp hq with rfl | hq
      · exact hstop _ hs
      · exact ih q hq
    · split at h
      · rename_i ss hs
        have ih := eow_ok hstop n (ss ++ r) h
        intro q hq
        rcases List.mem_cons.mp hq with rfl | hq
        · exact esound hs fun s' hs' => ih s' (List.mem_append_left _ hs')
        · exact ih q (List.mem_append_right _ hq)
      · cases h
theorem eok_ok {stop : eS → Bool} (hstop : ∀ s, stop s = true → eG P S D s) (n : Nat) (s : eS) (h : eok P S.1 D stop n s = true) : eG P S D s := eow_ok hstop n [s] h s (List.mem_singleton_self s)
theorem eok_no {n : Nat} {s : eS} (h : eok P S.1 D (fun _ => false) n s = true) : eG P S D s := eok_ok (fun _ q => by cases q) n s h
theorem eadv_ok : ∀ (k : Nat) (s s' : eS), eadv P S.1 D k s = some s' → eG P S D s' → eG P S D s
  | 0, s, s', h, hg => by cases h; exact hg
  | k + 1, s, s', h, hg => by
    simp only [eadv] at h
    split at h
    · rename_i s1 hs
      exact esound hs fun q hq => by
        rw [List.mem_singleton.mp hq]
        exact eadv_ok k s1 s' h hg
    · cases h
end EK
