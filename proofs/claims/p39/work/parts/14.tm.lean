/-! a run that ends -/
def mi_T (P : mP) (S : Nat × (Nat → Int32)) (d m : Nat) (f : mF) (h : mH) (Q : Option Value → mH → Prop) : Prop := ∃ n r h', mi_run P S n d m f h = some (r, h') ∧ Q r h'
section MIT
variable {P : mP} {S : Nat × (Nat → Int32)} {d m : Nat} {f f' : mF} {h h' h1 : mH} {Q : Option Value → mH → Prop}
theorem mi_run_st {n : Nat} {x : Option Value × mH} (hst : mi_step S (mi_at P m f.1) f h = some (f', h1)) (hr : mi_run P S n d m f' h1 = some x) : mi_run P S (n + 1) d m f h = some x := by
  rw [mi_run]
  generalize mi_at P m f.1 = i at hst
  split
  · cases hst
  · cases hst
  · cases hst
  · cases hst
  · cases hst
  · rw [hst]
    exact hr
theorem mi_run_ca {n y d' : Nat} {as rest : List Value} {r1 : Option Value} {x : Option Value × mH} (hi : mi_at P m f.1 = .invokevirtual y) (ha : mi_args (P.get y).2.1 f.2.2 = some (as, rest)) (h8 : (rest.map fun v => v.category).sum ≤ 8) (hm : (as.map fun v => v.category).sum ≤ (P.get y).2.2.2.2.1) (hrc : mi_rcv (P.get y).2.2.2.1 as h = true)
    (h2 : mi_run P S n d' y (0, mi_ent 0 as, []) h = some (r1, h1)) (hr : mi_run P S n (d' + 1) m (f.1 + 1, f.2.1, r1.toList ++ rest) h1 = some x) : mi_run P S (n + 1) (d' + 1) m f h = some x := by
  rw [mi_run]
  rw [hi]
  simp only [ha, h8, hm, hrc, and_self, if_true, h2]
  exact hr
theorem mi_run_le : ∀ (n n' d m : Nat) (f : mF) (h : mH) (x : Option Value × mH), n ≤ n' → mi_run P S n d m f h = some x → mi_run P S n' d m f h = some x := by
  intro n
  induction n with
  | zero => intro n' d m f h x _ hr; rw [mi_run] at hr; cases hr
  | succ n ih =>
    intro n' d m f h x hle hr
    obtain ⟨k, rfl⟩ : ∃ k, n' = k + 1 := ⟨n' - 1, by omega⟩
    obtain ⟨r, h'⟩ := x
    rcases mi_runC hr with ⟨rfl, hend, hst⟩ | ⟨y, d', as, rest, r1, h1, hlt, hi, rfl, ha, hs8, hsum, hrc, e1, e2⟩ | ⟨f1, h1, hlt, e1, n1, n2, n3, n4, n5, e2⟩
    · rw [mi_run]
      rcases hend.2 with ⟨q, rfl⟩ | ⟨v, q, rfl, qz⟩ | ⟨v, q, rfl⟩ | ⟨v, q, rfl⟩
      · rw [q]; simp only [hst, Option.toList]
      · rw [q]; simp only [hst, Option.toList, qz, if_true]
      · rw [q]; simp only [hst, Option.toList]
      · rw [q]; simp only [hst, Option.toList]
    · exact mi_run_ca hi ha hs8 hsum hrc (ih k _ _ _ _ _ (by omega) e1) (ih k _ _ _ _ _ (by omega) e2)
    · exact mi_run_st e1 (ih k _ _ _ _ _ (by omega) e2)
theorem mi_T_st (hst : mi_step S (mi_at P m f.1) f h = some (f', h1)) (k : mi_T P S d m f' h1 Q) : mi_T P S d m f h Q := by
  obtain ⟨n, r, h', hr, hq⟩ := k
  exact ⟨n + 1, r, h', mi_run_st hst hr, hq⟩
theorem mi_T_ca {y d' : Nat} {as rest : List Value} (hi : mi_at P m f.1 = .invokevirtual y) (ha : mi_args (P.get y).2.1 f.2.2 = some (as, rest)) (h8 : (rest.map fun v => v.category).sum ≤ 8) (hm : (as.map fun v => v.category).sum ≤ (P.get y).2.2.2.2.1) (hrc : mi_rcv (P.get y).2.2.2.1 as h = true)
    (k : mi_T P S d' y (0, mi_ent 0 as, []) h (fun r1 h1 => mi_T P S (d' + 1) m (f.1 + 1, f.2.1, r1.toList ++ rest) h1 Q)) : mi_T P S (d' + 1) m f h Q := by
  obtain ⟨n1, r1, h1, e1, n2, r, h', e2, hq⟩ := k
  exact ⟨max n1 n2 + 1, r, h', mi_run_ca hi ha h8 hm hrc (mi_run_le _ _ _ _ _ _ _ (Nat.le_max_left _ _) e1) (mi_run_le _ _ _ _ _ _ _ (Nat.le_max_right _ _) e2), hq⟩
theorem mi_T_re (hst : f.2.2 = []) (hi : mi_at P m f.1 = .return_) (hq : Q none h) : mi_T P S d m f h Q := ⟨1, none, h, by rw [mi_run, hi]; simp only [hst], hq⟩
theorem mi_T_ri {v : Int32} (hst : f.2.2 = [.int v]) (hi : mi_at P m f.1 = .ireturn) (hz : mi_retz (P.get m).2.2.1 v = true) (hq : Q (some (.int v)) h) : mi_T P S d m f h Q := ⟨1, some (.int v), h, by rw [mi_run, hi]; simp only [hst, hz, if_true], hq⟩
theorem mi_T_rl {v : Int64} (hst : f.2.2 = [.long v]) (hi : mi_at P m f.1 = .lreturn) (hq : Q (some (.long v)) h) : mi_T P S d m f h Q := ⟨1, some (.long v), h, by rw [mi_run, hi]; simp only [hst], hq⟩
theorem mi_T_ra {v : Nat} (hst : f.2.2 = [.ref v]) (hi : mi_at P m f.1 = .areturn) (hq : Q (some (.ref v)) h) : mi_T P S d m f h Q := ⟨1, some (.ref v), h, by rw [mi_run, hi]; simp only [hst], hq⟩
theorem mi_T_mono {Q' : Option Value → mH → Prop} (k : mi_T P S d m f h Q) (hq : ∀ r h', Q r h' → Q' r h') : mi_T P S d m f h Q' := by
  obtain ⟨n, r, h', hr, q⟩ := k
  exact ⟨n, r, h', hr, hq _ _ q⟩
end MIT
