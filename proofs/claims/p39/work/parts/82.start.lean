/-! THE START: the two objects are made; what the first executor says of the cells is within what the loop's head says -/
def ezP (v : eV) (p : zP) : Bool := match p with
  | .inl (lo, hi) => (match v with
    | .inl c => zle lo (Int.sub c 2147483648) && zle (Int.sub c 2147483648) hi
    | _ => false)
  | .inr 0 => (match v with
    | .inr (.inr (.inr (.inl _))) => true
    | _ => false)
  | .inr 1 => (match v with
    | .inl c => Nat.beq c 2147483648
    | _ => false)
  | .inr 2 => (match v with
    | .inl c => Nat.beq c 2147483648
    | _ => false)
  | .inr _ => true
def ezV (v : eV) (w : zV) : Bool := match w with
  | .inl (0, [(q, 1)]) => (match v with
    | .inl c => Nat.beq c 2147483648 && (Nat.blt 0 q && Nat.blt q 7)
    | _ => false)
  | .inr (.inl k) => (match v with
    | .inr (.inr (.inl r)) => Nat.beq r k
    | _ => false)
  | .inr (.inr (.inr p)) => ezP v p
  | _ => false
def ezC (ce : eC) (c : zC) : Bool := Nat.beq ce.1 c.1 && (Nat.beq ce.2.1 c.2.1 && ((match c.2.2.1 with
    | .inr 3 => true
    | p => (match ce.2.2.1 with
      | some v => ezP v p && ce.2.2.2.all (fun q => ezP q.2 p)
      | none => false)) && c.2.2.2.all (fun q => match q.1 with
    | (.ofNat j, []) => Nat.blt j ce.2.1 && (match elk ce j with
      | some v => ezV v q.2
      | none => false)
    | _ => false)))
noncomputable def ezT (t : eTr) (u : zT) : Bool := (zlvs u).all (fun q => Nat.beq q.1 0 || (match eget t (q.1 - 1) with
  | some ce => ezC ce q.2
  | none => false))
section EZ
variable {xs : Nat → Int32}
theorem ez_int {y : Int32} {c : Nat} (h : eb y = c) : y.toInt = (c : Int) - 2147483648 := by
  have := zI_b y
  unfold eb at h
  omega
theorem ezP_ok {v : eV} {p : zP} {j : Int} {x : Value} (h : ezP v p = true) (hx : eR xs v x) : zD p j x := by
  match p, h with
  | .inl (lo, hi), h =>
    simp only [ezP] at h
    split at h
    · rename_i c _
      rw [Bool.and_eq_true, zle_iff, zle_iff] at h
      obtain ⟨y, rfl, hy⟩ := hx
      have := ez_int hy
      have e : Int.sub (c : Int) 2147483648 = (c : Int) - 2147483648 := rfl
      exact ⟨y, rfl, by omega, by omega⟩
    · cases h
  | .inr 0, h =>
    simp only [ezP] at h
    split at h
    · exact ⟨_, hx⟩
    · cases h
  | .inr 1, h =>
    simp only [ezP] at h
    split at h
    · obtain ⟨y, rfl, hy⟩ := hx
      have := ez_int hy
      have := Nat.eq_of_beq_eq_true h
      exact ⟨y, rfl, fun q => by omega⟩
    · cases h
  | .inr 2, h =>
    simp only [ezP] at h
    split at h
    · obtain ⟨y, rfl, hy⟩ := hx
      have := ez_int hy
      have := Nat.eq_of_beq_eq_true h
      exact ⟨y, rfl, fun q => by omega⟩
    · cases h
  | .inr (n + 3), _ => trivial
theorem ezV_ok {L : Int} {v : eV} {w : zV} {j : Int} {x : Value} (h : ezV v w = true) (hx : eR xs v x) : zQ [L, 0, 0, 0, 0, 0, 0] w j x := by
  unfold ezV at h
  split at h
  · rename_i q
    split at h
    · rename_i c
      simp only [Bool.and_eq_true] at h
      obtain ⟨y, rfl, hy⟩ := hx
      have := ez_int hy
      have h1 := Nat.eq_of_beq_eq_true h.1
      have h2 := e_blt.mp h.2.1
      have h3 := e_blt.mp h.2.2
      refine ⟨y, rfl, ?_⟩
      have h0 : y.toInt = 0 := by omega
      rw [h0]
      have hq : ([L, 0, 0, 0, 0, 0, 0] : List Int)[q]? = some 0 := by
        match q, h2, h3 with
        | 1, _, _ => rfl
        | 2, _, _ => rfl
        | 3, _, _ => rfl
        | 4, _, _ => rfl
        | 5, _, _ => rfl
        | 6, _, _ => rfl
      exact zE_v (zE_1 hq) (by omega)
    · cases h
  · split at h
    · have := Nat.eq_of_beq_eq_true h
      subst this
      exact hx
    · cases h
  · exact ezP_ok h hx
  · cases h
theorem ezC_ok {L : Int} {ce : eC} {c : zC} {m : mC} (h : ezC ce c = true) (h9 : ¬ ce.1 = 99) (hK : eK xs ce m) : zKc [L, 0, 0, 0, 0, 0, 0] c m := by
  unfold ezC at h
  simp only [Bool.and_eq_true] at h
  obtain ⟨k1, k2, k3, k4⟩ := h
  have k1 := Nat.eq_of_beq_eq_true k1
  have k2 := Nat.eq_of_beq_eq_true k2
  have hK : match (generalizing := false) m with
    | .inl (t, n, .inl g) => ce.1 = t ∧ t < 3 ∧ ce.2.1 = n ∧ ∀ j v, elk ce j = some v → eR xs v (.int (g j))
    | .inl (t, n, .inr (.inl g)) => ce.1 = t ∧ t = 3 ∧ ce.2.1 = n ∧ ∀ j v, elk ce j = some v → eR xs v (.long (g j))
    | .inl (t, n, .inr (.inr g)) => ce.1 = t ∧ t = 4 ∧ ce.2.1 = n ∧ ∀ j v, elk ce j = some v → ∃ r, g j = some r ∧ eR xs v (.ref r)
    | .inr (ci, fs) => ce.1 = ci + 100 ∧ ce.2.1 = fs.length ∧ ∀ j v, elk ce j = some v → ∃ x, fs[j]? = some x ∧ eR xs v x := hK.resolve_left h9
  have hw : zwf m ∧ zknd m = (c.1, c.2.1) := by
    match m, hK with
    | .inl (t, n, .inl g), ⟨a1, a2, a3, _⟩ => exact ⟨a2, by simp only [zknd]; rw [← a1, ← a3, k1, k2]⟩
    | .inl (t, n, .inr (.inl g)), ⟨a1, a2, a3, _⟩ => exact ⟨a2, by simp only [zknd]; rw [← a1, ← a3, k1, k2]⟩
    | .inl (t, n, .inr (.inr g)), ⟨a1, a2, a3, _⟩ => exact ⟨a2, by simp only [zknd]; rw [← a1, ← a3, k1, k2]⟩
    | .inr (ci, fs), ⟨a1, a2, _⟩ => exact ⟨trivial, by simp only [zknd]; rw [← a1, ← a2, k1, k2]⟩
  -- a place: what it holds is what the executor says
  have at_ : ∀ (j : Nat) (v : eV), j < ce.2.1 → elk ce j = some v → ∃ x, zslot m (j : Int) = some x ∧ eR xs v x := by
    intro j v hj hv
    match m, hK with
    | .inl (t, n, .inl g), ⟨a1, a2, a3, a4⟩ => exact ⟨_, by simp only [zslot]; rw [if_pos ⟨by omega, by omega⟩]; rfl, a4 j v hv⟩
    | .inl (t, n, .inr (.inl g)), ⟨a1, a2, a3, a4⟩ => exact ⟨_, by simp only [zslot]; rw [if_pos ⟨by omega, by omega⟩]; rfl, a4 j v hv⟩
    | .inl (t, n, .inr (.inr g)), ⟨a1, a2, a3, a4⟩ =>
      obtain ⟨r, b1, b2⟩ := a4 j v hv
      exact ⟨.ref r, by simp only [zslot]; rw [if_pos ⟨by omega, by omega⟩]; simp [b1], b2⟩
    | .inr (ci, fs), ⟨a1, a2, a4⟩ =>
      obtain ⟨x, b1, b2⟩ := a4 j v hv
      exact ⟨x, by simp only [zslot]; rw [if_pos (by omega)]; simpa using b1, b2⟩
  refine ⟨hw.1, hw.2, ?_, ?_⟩
  · intro j x hx
    split at k3
    · rename_i e; rw [e]; trivial
    · split at k3
      · rename_i v hv
        rw [Bool.and_eq_true] at k3
        have j0 := zslot_neg hx
        have key : ∃ w, elk ce j.toNat = some w ∧ ezP w c.2.2.1 = true := by
          unfold elk
          cases hf : efind ce.2.2.2 j.toNat with
          | some w => exact ⟨w, rfl, List.all_eq_true.mp k3.2 _ (efind_mem hf)⟩
          | none => exact ⟨v, hv, k3.1⟩
        obtain ⟨w, w1, w2⟩ := key
        have hlt : j.toNat < ce.2.1 := by
          rw [k2]
          have hz := hw.2
          match m, hx, hz with
          | .inl (t, n, .inl g), hx, hz => simp only [zslot] at hx; simp only [zknd, Prod.mk.injEq] at hz; split at hx <;> first | omega | cases hx
          | .inl (t, n, .inr (.inl g)), hx, hz => simp only [zslot] at hx; simp only [zknd, Prod.mk.injEq] at hz; split at hx <;> first | omega | cases hx
          | .inl (t, n, .inr (.inr g)), hx, hz => simp only [zslot] at hx; simp only [zknd, Prod.mk.injEq] at hz; split at hx <;> first | omega | cases hx
          | .inr (ci, fs), hx, hz =>
            simp only [zslot] at hx
            simp only [zknd, Prod.mk.injEq] at hz
            split at hx
            all_goals first
              | omega
              | (have := (List.getElem?_eq_some_iff.mp hx).1; omega)
              | (cases hx; done)
        obtain ⟨y, y1, y2⟩ := at_ j.toNat w hlt w1
        rw [show ((j.toNat : Nat) : Int) = j by omega, hx] at y1
        cases y1
        exact ezP_ok w2 y2
      · cases k3
  · intro q hq
    have h1 := List.all_eq_true.mp k4 q hq
    obtain ⟨e, w⟩ := q
    simp only at h1
    split at h1
    · rename_i j
      rw [Bool.and_eq_true] at h1
      have hj := e_blt.mp h1.1
      have h2 := h1.2
      split at h2
      · rename_i v hv
        obtain ⟨x, x1, x2⟩ := at_ j v hj hv
        exact ⟨(j : Int), x, zE_K, x1, ezV_ok h2 x2⟩
      · cases h2
    · cases h1
theorem ezT_ok {L : Int} {n : Nat} {t : eTr} {u : zT} {h : mH} (hu : ezT t u = true) (h9 : (zlvs u).all (fun q => !(Nat.beq q.2.1 99)) = true) (hH : eHp xs n t h) : zHp [L, 0, 0, 0, 0, 0, 0] u h := by
  intro k c hk
  have hm := zlvs_mem u k
  unfold zget at hk
  rw [cond_eq_ite] at hk
  split at hk
  · rename_i hb
    have hb := Nat.eq_of_beq_eq_true hb
    have hq := List.all_eq_true.mp hu _ hm
    have hq9 := List.all_eq_true.mp h9 _ hm
    rw [hb, Bool.or_eq_true] at hq
    cases hk
    rcases hq with z | z
    · cases z
    · rw [Nat.add_sub_cancel] at z
      cases hc : eget t k with
      | none => rw [hc] at z; cases z
      | some ce =>
        rw [hc] at z
        obtain ⟨m, m1, m2⟩ := hH.2 k ce hc
        refine ⟨m, m1, ezC_ok z ?_ m2⟩
        intro q
        unfold ezC at z
        rw [Bool.and_eq_true] at z
        have := Nat.eq_of_beq_eq_true z.1
        rw [← this, q] at hq9
        cases hq9
  · cases hk
end EZ
