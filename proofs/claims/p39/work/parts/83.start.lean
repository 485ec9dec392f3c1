/-! the road to the loop's head looks at no script -/
noncomputable def enl (P : mP) (s : eS) : Bool := match s with
  | ((m, pc, _, st) :: _, _, _, _) => (match mi_at P m pc with
    | .arraylength => (match st with
      | .inr (.inr (.inl k)) :: _ => !(Nat.beq k 0)
      | _ => true)
    | .iaload => (match st with
      | _ :: .inr (.inr (.inl k)) :: _ => !(Nat.beq k 0)
      | _ => true)
    | _ => true)
  | _ => true
theorem estep_L {P : mP} {L D : Nat} {s : eS} (h : enl P s = true) : estep P L D s = estep P 0 D s := by
  match s, h with
  | ([], n, t, en), h => rfl
  | ((m, pc, l, st) :: fr, n, t, en), h =>
    unfold enl at h
    unfold estep
    simp only at h ⊢
    cases hi : mi_at P m pc <;> rw [hi] at h <;> simp only at h ⊢ <;> first | rfl | skip
    all_goals first
      | (unfold ex_arraylength
         rcases st with _ | ⟨w, st'⟩
         · rfl
         · rcases w with c | c | k | c
           · rfl
           · rfl
           · have hk : (!(Nat.beq k 0)) = true := h
             clear h
             cases hb : Nat.beq k 0 with
             | false => simp only [hb, cond_false]
             | true => rw [hb] at hk; cases hk
           · rfl)
      | (unfold ex_iaload
         rcases st with _ | ⟨v, _ | ⟨w, st'⟩⟩
         · rfl
         · rfl
         · rcases w with c | c | k | c
           · rfl
           · rfl
           · have hk : (!(Nat.beq k 0)) = true := h
             clear h
             cases hb : Nat.beq k 0 with
             | false => simp only [hb, cond_false]
             | true => rw [hb] at hk; cases hk
           · rfl)
noncomputable def eadv0 (P : mP) (D : Nat) : Nat → eS → Option eS
  | 0, s => some s
  | k + 1, s => bif enl P s then (match estep P 0 D s with
    | some [s'] => eadv0 P D k s'
    | _ => none) else none
theorem eadv0_ok {P : mP} {L D : Nat} : ∀ {k : Nat} {s s' : eS}, eadv0 P D k s = some s' → eadv P L D k s = some s'
  | 0, s, s', h => h
  | k + 1, s, s', h => by
    simp only [eadv0, cond_eq_ite] at h
    split at h
    · rename_i hn
      split at h
      · rename_i s1 hs
        simp only [eadv]
        rw [estep_L (L := L) hn, hs]
        exact eadv0_ok h
      · cases h
    · cases h
/-- a place that holds 0 -/
noncomputable def eZ (t : eTr) (k j : Nat) : Bool := match eget t k with
  | some ce => !(Nat.beq ce.1 99) && (Nat.blt j ce.2.1 && (match elk ce j with
    | some (.inl c) => Nat.beq c 2147483648
    | _ => false))
  | none => false
theorem eZ_ok {xs : Nat → Int32} {n k j : Nat} {t : eTr} {h : mH} (hz : eZ t k j = true) (hH : eHp xs n t h) : zI h k j = 0 := by
  unfold eZ at hz
  split at hz
  · rename_i ce hce
    simp only [Bool.and_eq_true] at hz
    obtain ⟨d1, d2, d3⟩ := hz
    have d2 := e_blt.mp d2
    obtain ⟨m, m1, m2⟩ := hH.2 k ce hce
    split at d3
    · rename_i cc hcc
      have d3 := Nat.eq_of_beq_eq_true d3
      rcases m2 with q | m2
      · rw [q] at d1; cases d1
      · match m, m1, m2 with
        | .inl (t, n, .inl g), m1, ⟨a1, a2, a3, a4⟩ =>
          obtain ⟨z, hz, hz2⟩ := a4 j _ hcc
          have hs : zslot (.inl (t, n, .inl g)) (j : Int) = some (.int (g j)) := by simp only [zslot]; rw [if_pos ⟨by omega, by omega⟩]; rfl
          rw [zI_at m1 hs]
          cases hz
          have := ez_int hz2
          omega
        | .inl (t, n, .inr (.inl g)), m1, ⟨a1, a2, a3, a4⟩ => obtain ⟨z, hz, -⟩ := a4 j _ hcc; cases hz
        | .inl (t, n, .inr (.inr g)), m1, ⟨a1, a2, a3, a4⟩ => obtain ⟨r, -, z, hz, -⟩ := a4 j _ hcc; cases hz
        | .inr (ci, ff), m1, ⟨a1, a2, a4⟩ =>
          obtain ⟨x, x1, z, rfl, hz2⟩ := a4 j _ hcc
          have hs : zslot (.inr (ci, ff)) (j : Int) = some (.int z) := by simp only [zslot]; rw [if_pos (by omega)]; simpa using x1
          rw [zI_at m1 hs]
          have := ez_int hz2
          omega
    · cases d3
  · cases hz
noncomputable def eHd : eS := (eadv0 mi_P 70 3883 est0).getD est0
def eHf (fr : List eF) : Bool := match fr with
  | [(0, 10, [(3, .inl 2147483648), (2, .inr (.inr (.inl 469))), (1, .inr (.inr (.inl 6))), (0, .inr (.inr (.inl 0)))], [])] => true
  | _ => false
theorem eHd_ok : ((eadv0 mi_P 70 3883 est0).isSome && (eHf eHd.1 && (Nat.ble eHd.2.1 600 && (ezT eHd.2.2.1 zFt && ((zlvs zFt).all (fun q => !(Nat.beq q.2.1 99)) && (eZ eHd.2.2.1 479 0 && eZ eHd.2.2.1 469 34)))))) = true := by decide +kernel
theorem e_headG {L : Nat} {xs : Nat → Int32} {s : eS} (ck : (eHf s.1 && (Nat.ble s.2.1 600 && (ezT s.2.2.1 zFt && ((zlvs zFt).all (fun q => !(Nat.beq q.2.1 99)) && (eZ s.2.2.1 479 0 && eZ s.2.2.1 469 34))))) = true) (hL : L ≤ 3072) : eG mi_P (L, xs) 70 s := by
  simp only [Bool.and_eq_true] at ck
  obtain ⟨c1, c2, c3, c4, c5, c6⟩ := ck
  intro fs h hR
  obtain ⟨hF, hH, -⟩ := hR
  have c2 := Nat.le_of_ble_eq_true c2
  have hZ : zHp [(L : Int), 0, 0, 0, 0, 0, 0] zFt h := ezT_ok c3 c4 hH
  unfold eHf at c1
  split at c1
  · rename_i hfr
    rw [hfr] at hF
    obtain ⟨l0, st0, fs', rfl, hl, hst, hfs⟩ := hF
    have hst : st0 = [] := hst
    have hfs : fs' = [] := hfs
    subst hst
    subst hfs
    obtain ⟨v3, l3, rfl, ⟨y, rfl, hy⟩, v2, l2, rfl, h2, v1, l1, rfl, h1, v0, l00, rfl, h0, hn⟩ := hl
    have h2 : v2 = .ref 469 := h2
    have h1 : v1 = .ref 6 := h1
    have h0 : v0 = .ref 0 := h0
    have hn : l00 = [] := hn
    subst h2
    subst h1
    subst h0
    subst hn
    have hy0 : y.toInt = 0 := by have := ez_int hy; omega
    have hOm : zOm h := by
      have e34 : zI h 469 34 = 0 ∧ zobj h 469 := by
        constructor
        · exact eZ_ok (j := 34) c6 hH
        · have hc : (match zget zFt 469 with
            | some c => Nat.ble 100 c.1
            | none => false) = true := by decide +kernel
          split at hc
          · rename_i c hz
            exact zobj_of hZ hz (e_ble.mp hc)
          · cases hc
      refine ⟨e34.2, fun s s0 s1 => ?_⟩
      exfalso
      rw [e34.1] at s1
      have e0 : zI h 479 0 = 0 := eZ_ok (j := 0) c5 hH
      omega
    have hRS : zRS zOmL ([((L, xs).1 : Int)] ++ [0, 0, 0, 0, 0, 0]) zFl.1 [(0, (10, [(3, .int y), (2, .ref 469), (1, .ref 6), (0, .ref 0)], []))] h := by
      refine ⟨⟨_, [], [], rfl, ?_, rfl, rfl⟩, hZ, zEn_mk ?_ ?_, hOm, by rw [hH.1]; exact c2⟩
      · intro q hq
        have hq : q ∈ [((3 : Nat), (Sum.inl (zX 1) : zV)), (2, .inr (.inl 469)), (1, .inr (.inl 6)), (0, .inr (.inl 0))] := hq
        simp only [List.mem_cons, List.not_mem_nil, or_false] at hq
        rcases hq with rfl | rfl | rfl | rfl
        · exact ⟨_, rfl, y, rfl, by rw [hy0]; exact zE_X rfl⟩
        · exact ⟨_, rfl, rfl⟩
        · exact ⟨_, rfl, rfl⟩
        · exact ⟨_, rfl, rfl⟩
      · exact zB_cons (by omega) (by omega) (zB_cons (by omega) (by omega) (zB_cons (by omega) (by omega) (zB_cons (by omega) (by omega) (zB_cons (by omega) (by omega) (zB_cons (by omega) (by omega) (zB_cons (by omega) (by omega) zB_nil))))))
      · exact zFa_cons (zE_2 rfl rfl) (by omega) (zFa_cons (zE_2 rfl rfl) (by omega) (zFa_cons (zE_2 rfl rfl) (by omega) zFa_nil))
    have M := zlawloop (S := (L, xs)) hL 3073 [0, 0, 0, 0, 0, 0] _ h 3072 hRS (zE_v (zE_1 rfl) (by omega)) (by omega)
    exact M
  · cases c1
theorem e_head {L : Nat} {xs : Nat → Int32} (hL : L ≤ 3072) : eG mi_P (L, xs) 70 eHd := e_headG (Bool.and_eq_true_iff.mp eHd_ok).2 hL
