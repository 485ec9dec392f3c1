/-! one call on a fresh object: the road to the law's switch, and from there call by call -/
noncomputable def eT : eS := (eadv mi_P 6 60 3894 est0).getD est0
noncomputable def eSu : List eS := (estep mi_P 6 60 eT).getD []
noncomputable def eOp (n j : Nat) : Bool := match eSu[j]? with
  | some s => eok mi_P 6 60 (fun _ => false) n s
  | none => false
noncomputable def eOps (n : Nat) (js : List Nat) : Bool := js.all (eOp n)
/-- the same with bounds of the first argument -/
noncomputable def eOpE (n j : Nat) (iv : Nat × Nat) : Bool := match eSu[j]? with
  | some s => eok mi_P 6 60 (fun _ => false) n (eset1 s 1 iv)
  | none => false
noncomputable def eOpS (stop : eS → Bool) (n j : Nat) (iv : Nat × Nat) : Bool := match eSu[j]? with
  | some s => eok mi_P 6 60 stop n (eset1 s 1 iv)
  | none => false
theorem eadv_T : (eadv mi_P 6 60 3894 est0).isSome = true ∧ (estep mi_P 6 60 eT).isSome = true ∧ eSu.length = 45 := by decide +kernel
