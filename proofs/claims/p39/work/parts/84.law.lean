/-! THE LAW'S RUN: from the law's entry to the loop's head, and on -/
section EFN
variable {xs : Nat → Int32}
theorem emk_get (k : Nat) : ∀ d b, ((emk d b).get k).1 = 0
  | 0, b => rfl
  | d + 1, b => by
    have e1 : (emk (d + 1) b).get k = (Nat.ble (b + 2 ^ d) k).rec ((emk d b).get k) ((emk d (b + 2 ^ d)).get k) := rfl
    rw [e1]
    cases Nat.ble (b + 2 ^ d) k with
    | false => exact emk_get k d b
    | true => exact emk_get k d (b + 2 ^ d)
theorem eb_and (x : Int32) : 2147483648 ≤ eb (x &&& 63) ∧ eb (x &&& 63) ≤ 2147483711 := by
  have h1 := eb_int (x &&& 63)
  have h2 : (x &&& 63).toBitVec.toNat ≤ 63 := by
    rw [Int32.toBitVec_and, BitVec.toNat_and]
    exact Nat.and_le_right
  have h3 : (x &&& 63).toInt = ((x &&& 63).toBitVec.toNat : Int) := by
    show (x &&& 63).toBitVec.toInt = _
    rw [BitVec.toInt_eq_toNat_of_lt (by omega)]
  omega
theorem eRS_0 : eRS xs est0 [(0, 0, [(0, .ref 0)], [])] [] := by
  refine ⟨⟨[(0, .ref 0)], [], [], rfl, ⟨.ref 0, [], rfl, rfl, rfl⟩, rfl, rfl⟩, ⟨rfl, fun k ce hc => ?_⟩, fun i lo hi hq => ?_⟩
  · have h1 : eget (emk 9 0) k = some ce := hc
    unfold eget at h1
    rw [emk_get] at h1
    cases h1
  · have h1 := eb_lt (erho xs i)
    by_cases hi6 : i < 6
    · have hh : lo = 0 ∧ hi = 4294967295 := by
        have hq' : ([(0, 4294967295), (0, 4294967295), (0, 4294967295), (0, 4294967295), (0, 4294967295), (0, 4294967295), (2147483648, 2147483711), (2147483648, 2147483711), (2147483648, 2147483711), (2147483648, 2147483711), (2147483648, 2147483711), (2147483648, 2147483711)] : eEn)[i]? = some (lo, hi) := hq
        rcases i with _ | _ | _ | _ | _ | _ | i
        all_goals first
          | omega
          | (simp at hq'; omega)
      omega
    · by_cases hi12 : i < 12
      · have hh : lo = 2147483648 ∧ hi = 2147483711 := by
          have hq' : ([(0, 4294967295), (0, 4294967295), (0, 4294967295), (0, 4294967295), (0, 4294967295), (0, 4294967295), (2147483648, 2147483711), (2147483648, 2147483711), (2147483648, 2147483711), (2147483648, 2147483711), (2147483648, 2147483711), (2147483648, 2147483711)] : eEn)[i]? = some (lo, hi) := hq
          rcases i with _ | _ | _ | _ | _ | _ | _ | _ | _ | _ | _ | _ | i
          all_goals first
            | omega
            | (simp at hq'; omega)
        have h2 := eb_and (xs (i - 6))
        have h3 : erho xs i = xs (i - 6) &&& 63 := by unfold erho; rw [if_neg hi6, if_pos hi12]
        rw [h3]
        omega
      · have hq' : ([(0, 4294967295), (0, 4294967295), (0, 4294967295), (0, 4294967295), (0, 4294967295), (0, 4294967295), (2147483648, 2147483711), (2147483648, 2147483711), (2147483648, 2147483711), (2147483648, 2147483711), (2147483648, 2147483711), (2147483648, 2147483711)] : eEn)[i]? = some (lo, hi) := hq
        rw [List.getElem?_eq_none (by simp; omega)] at hq'
        cases hq'
theorem g_0 {L : Nat} (hL : L ≤ 3072) : eG mi_P (L, xs) 70 est0 := by
  have h := eHd_ok
  rw [Bool.and_eq_true] at h
  have hs : eadv0 mi_P 70 3883 est0 = some eHd := by
    have h1 := h.1
    unfold eHd
    cases hh : eadv0 mi_P 70 3883 est0 with
    | none => rw [hh] at h1; cases h1
    | some q => rfl
  exact eadv_ok (S := (L, xs)) 3883 est0 eHd (eadv0_ok hs) (e_head hL)
/-- the law's run -/
theorem e_law (L : Nat) (hL : L ≤ 3072) : mi_T mi_P (L, xs) 70 0 (0, [(0, .ref 0)], []) [] (fun r h => r = some (.int 1) ∧ h.length ≤ 600) := by
  exact g_0 hL _ _ eRS_0
end EFN
