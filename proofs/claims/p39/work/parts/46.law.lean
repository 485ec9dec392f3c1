/-! the law's own calls: nothing is written but by them -/
noncomputable def zcalL (d y : Nat) (as : List zV) (t : zT) (en : zN) : List zCt → Option (List (Option zV × zT × zN))
  | [] => none
  | ct :: u => bif Nat.beq ct.1 y && Nat.ble ct.2.1 d then (match zap ct.2.2.2.2.2.2.1 en t as ct with
    | some q => some q
    | none => zcalL d y as t en u) else zcalL d y as t en u
theorem zcalL_ok {P : mP} {S : Nat × (Nat → Int32)} {Om : mH → Prop} {cts : List zCt} (hc : ∀ ct ∈ cts, zCtr P S Om ct) : zClO P S Om (fun d y as t en => zcalL d y as t en cts) := by
  induction cts with
  | nil => intro d y as t en q h; cases h
  | cons ct u ih =>
    intro d y as t en q h r xs hh hj hE hH hs
    simp only [zcalL, cond_eq_ite] at h
    split at h
    · rename_i hb
      rw [Bool.and_eq_true] at hb
      have hy := Nat.eq_of_beq_eq_true hb.1
      have hd := e_ble.mp hb.2
      split at h
      · rename_i q' hq'
        cases h
        subst hy
        exact mi_T_mono (zap_ok (hc ct (List.mem_cons_self ..)) hd hj hE hH hs hq') (fun x h' q => ⟨q.2.1, q.2.2⟩)
      · exact ih (fun c hc' => hc c (List.mem_cons_of_mem _ hc')) d y as t en q h r xs hh hj hE hH hs
    · exact ih (fun c hc' => hc c (List.mem_cons_of_mem _ hc')) d y as t en q h r xs hh hj hE hH hs
/-- no cell may be written by the law itself -/
def zW0 : zW := .leaf (0, [])
theorem zW0_no (k j : Nat) : zw zW0 k j = false := by
  unfold zw zW0
  rw [show (Lean.RArray.leaf ((0, []) : Nat × List Nat)).get k = (0, []) from rfl]
  rfl
