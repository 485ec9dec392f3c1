/-! SUBSTITUTION of forms for unknowns, and INCLUSION of what a state says in what another says -/
def zsbl (g : List zL) : List (Nat × Int) → Option zL
  | [] => some (zK 0)
  | (k, v) :: t => match g[k]?, zsbl g t with
    | some e, some q => some (zadd (zscl v e) q)
    | _, _ => none
def zsb (g : List zL) (e : zL) : Option zL := match zsbl g e.2 with
  | some q => some (zac q e.1)
  | none => none
def zsbs (g : List zL) : List zL → Option (List zL)
  | [] => some []
  | e :: t => match zsb g e, zsbs g t with
    | some q, some u => some (q :: u)
    | _, _ => none
def zsv (g : List zL) (v : zV) : Option zV := match v with
  | .inl e => (match zsb g e with
    | some q => some (.inl q)
    | none => none)
  | .inr (.inr (.inl e)) => (match zsb g e with
    | some q => some (.inr (.inr (.inl q)))
    | none => none)
  | v => some v
/-- the forms' worth -/
def zGr (g : List zL) (r rc : List Int) : Prop := g.length = rc.length ∧ ∀ (k : Nat) (e : zL), g[k]? = some e → ∃ x, rc[k]? = some x ∧ zE r e x
def zsames (en : zN) (a b : zL) : Bool := zeqL a b || (zpr en.1 en.2.1 1 (zsub a b) && zpr en.1 en.2.1 1 (zsub b a))
/-- a value's inclusion: w in the state, v what is wanted -/
def zvle (en : zN) (w v : zV) (ix : zL) : Bool := match v with
  | .inl e => (match w with
    | .inl d => zsames en d e
    | _ => false)
  | .inr (.inl k) => (match w with
    | .inr (.inl j) => Nat.beq j k
    | _ => false)
  | .inr (.inr (.inl e)) => (match w with
    | .inr (.inr (.inl d)) => zsames en d e
    | _ => false)
  | .inr (.inr (.inr p)) => (match p with
    | .inr 3 => true
    | p => zpin en w p ix)
def zpeq (p q : zP) : Bool := match p, q with
  | .inl (a, b), .inl (c, d) => zeq a c && zeq b d
  | .inr a, .inr b => Nat.beq a b
  | _, _ => false
/-- places wanted of a cell -/
def zmle (en : zN) (g : List zL) (c : zC) : List (zL × zV) → Bool
  | [] => true
  | (e, v) :: t => (match zsb g e, zsv g v with
    | some ix, some w => (match zfnd ix c.2.2.2 with
      | some u => zvle en u w ix
      | none => Nat.blt c.1 4 && (zidx en ix c.2.1 && zvle en (zpat c.2.2.1) w ix))
    | _, _ => false) && zmle en g c t
def zcle (en : zN) (g : List zL) (c d : zC) : Bool := Nat.beq c.1 d.1 && (Nat.beq c.2.1 d.2.1 && (zpeq c.2.2.1 d.2.2.1 && zmle en g c d.2.2.2))
noncomputable def zlvs (t : zT) : List (Nat × zC) := Lean.RArray.rec (fun a => [a]) (fun _ _ _ l r => l ++ r) t
noncomputable def ztle (en : zN) (g : List zL) (t u : zT) : Bool := (zlvs u).all (fun q => Nat.beq q.1 0 || (match zget t (q.1 - 1) with
  | some c => zcle en g c q.2
  | none => false))
def zble (en : zN) (g : List zL) (bd : zBd) : Bool := match g, bd with
  | [], [] => true
  | e :: g', b :: bd' => (zub en.1 e).isSome && (zpr en.1 en.2.1 2 (zac e (Int.neg b.2)) && (zpr en.1 en.2.1 2 (zac (zneg e) b.1) && zble en g' bd'))
  | _, _ => false
def zfle (en : zN) (g : List zL) : List zL → Bool
  | [] => true
  | f :: t => (match zsb g f with
    | some e => zpr en.1 en.2.1 6 e
    | none => false) && zfle en g t
section ZM
variable {en : zN} {g : List zL} {r rc : List Int} {e : zL} {x j : Int}
theorem zsbl_ok (hg : zGr g r rc) : ∀ {t : List (Nat × Int)} {q : zL}, zsbl g t = some q → ∃ y, zev rc t = some y ∧ zE r q y
  | [], q, h => by cases h; exact ⟨0, rfl, zE_K⟩
  | (k, v) :: t, q, h => by
    simp only [zsbl] at h
    split at h
    · rename_i e u h1 h2
      cases h
      obtain ⟨x, hx, hE⟩ := hg.2 k e h1
      obtain ⟨y, hy, hu⟩ := zsbl_ok hg h2
      exact ⟨v * x + y, zev_cons.mpr ⟨x, y, hx, hy, rfl⟩, zE_add (zE_scl v hE) hu⟩
    · cases h
theorem zsb_ok (hg : zGr g r rc) {q : zL} (h : zsb g e = some q) : ∃ y, zE rc e y ∧ zE r q y := by
  unfold zsb at h
  split at h
  · rename_i u hu
    cases h
    obtain ⟨y, hy, hE⟩ := zsbl_ok hg hu
    refine ⟨e.1 + y, ⟨y, hy, rfl⟩, ?_⟩
    rw [Int.add_comm]
    exact zE_ac hE
  · cases h
theorem zsb_to (hg : zGr g r rc) {q : zL} (h : zsb g e = some q) (hx : zE r q x) : zE rc e x := by
  obtain ⟨y, h1, h2⟩ := zsb_ok hg h
  rw [zE_fun hx h2]
  exact h1
theorem zsb_of (hg : zGr g r rc) {q : zL} (h : zsb g e = some q) (hx : zE rc e x) : zE r q x := by
  obtain ⟨y, h1, h2⟩ := zsb_ok hg h
  rw [zE_fun hx h1]
  exact h2
theorem zsv_to (hg : zGr g r rc) {v w : zV} {y : Value} (h : zsv g v = some w) (hx : zQ r w j y) : zQ rc v j y := by
  match v, h with
  | .inl e, h =>
    simp only [zsv] at h
    split at h
    · rename_i q hq; cases h; obtain ⟨i, e1, e2⟩ := hx; exact ⟨i, e1, zsb_to hg hq e2⟩
    · cases h
  | .inr (.inl k), h => cases h; exact hx
  | .inr (.inr (.inl e)), h =>
    simp only [zsv] at h
    split at h
    · rename_i q hq; cases h; obtain ⟨i, e1, e2⟩ := hx; exact ⟨i, e1, zsb_to hg hq e2⟩
    · cases h
  | .inr (.inr (.inr p)), h => cases h; exact hx
theorem zsv_of (hg : zGr g r rc) {v w : zV} {y : Value} (h : zsv g v = some w) (hx : zQ rc v j y) : zQ r w j y := by
  match v, h with
  | .inl e, h =>
    simp only [zsv] at h
    split at h
    · rename_i q hq; cases h; obtain ⟨i, e1, e2⟩ := hx; exact ⟨i, e1, zsb_of hg hq e2⟩
    · cases h
  | .inr (.inl k), h => cases h; exact hx
  | .inr (.inr (.inl e)), h =>
    simp only [zsv] at h
    split at h
    · rename_i q hq; cases h; obtain ⟨i, e1, e2⟩ := hx; exact ⟨i, e1, zsb_of hg hq e2⟩
    · cases h
  | .inr (.inr (.inr p)), h => cases h; exact hx
theorem zsames_ok {a b : zL} (hE : zEn en r) (h : zsames en a b = true) (ha : zE r a x) (hb : ∃ y, zE r b y) : zE r b x := by
  unfold zsames at h
  rw [Bool.or_eq_true] at h
  rcases h with h | h
  · rw [← zeqL_eq h]; exact ha
  · rw [Bool.and_eq_true] at h
    obtain ⟨y, hy⟩ := hb
    have h1 := zEn_pr hE h.1 (zE_sub ha hy)
    have h2 := zEn_pr hE h.2 (zE_sub hy ha)
    have : x = y := by omega
    rw [this]
    exact hy
theorem zvle_ok {w v : zV} {ix : zL} {y : Value} (hE : zEn en r) (h : zvle en w v ix = true) (hx : zQ r w j y) (hj : zE r ix j) (hv : ∀ e, (v = .inl e ∨ v = .inr (.inr (.inl e))) → ∃ z, zE r e z) : zQ r v j y := by
  match v, h, hv with
  | .inl e, h, hv =>
    simp only [zvle] at h
    split at h
    · obtain ⟨i, e1, e2⟩ := hx; exact ⟨i, e1, zsames_ok hE h e2 (hv e (Or.inl rfl))⟩
    · cases h
  | .inr (.inl k), h, _ =>
    simp only [zvle] at h
    split at h
    · rw [← Nat.eq_of_beq_eq_true h]; exact hx
    · cases h
  | .inr (.inr (.inl e)), h, hv =>
    simp only [zvle] at h
    split at h
    · obtain ⟨i, e1, e2⟩ := hx; exact ⟨i, e1, zsames_ok hE h e2 (hv e (Or.inr rfl))⟩
    · cases h
  | .inr (.inr (.inr p)), h, _ =>
    simp only [zvle] at h
    split at h
    · trivial
    · exact zpin_ok hE h hx hj
theorem zvle_to {w v u : zV} {ix : zL} {y : Value} (hE : zEn en r) (hg : zGr g r rc) (hs : zsv g v = some u) (h : zvle en w u ix = true) (hx : zQ r w j y) (hj : zE r ix j) : zQ rc v j y := by
  refine zsv_to hg hs (zvle_ok hE h hx hj ?_)
  intro e he
  match v, hs with
  | .inl e', hs =>
    simp only [zsv] at hs
    split at hs
    · rename_i q hq
      cases hs
      obtain ⟨z, -, hz⟩ := zsb_ok hg hq
      rcases he with he | he
      · cases he; exact ⟨z, hz⟩
      · cases he
    · cases hs
  | .inr (.inl k), hs => cases hs; rcases he with he | he <;> cases he
  | .inr (.inr (.inl e')), hs =>
    simp only [zsv] at hs
    split at hs
    · rename_i q hq
      cases hs
      obtain ⟨z, -, hz⟩ := zsb_ok hg hq
      rcases he with he | he
      · cases he
      · cases he; exact ⟨z, hz⟩
    · cases hs
  | .inr (.inr (.inr p)), hs => cases hs; rcases he with he | he <;> cases he
theorem zpeq_eq {p q : zP} (h : zpeq p q = true) : p = q := by
  match p, q, h with
  | .inl (a, b), .inl (c, d), h =>
    simp only [zpeq, Bool.and_eq_true] at h
    rw [zeq_iff.mp h.1, zeq_iff.mp h.2]
  | .inr a, .inr b, h => rw [Nat.eq_of_beq_eq_true h]
  | .inl _, .inr _, h => cases h
  | .inr _, .inl _, h => cases h
theorem zmle_ok {c : zC} {m : mC} (hE : zEn en r) (hg : zGr g r rc) (hK : zKc r c m) : ∀ {l : List (zL × zV)}, zmle en g c l = true → ∀ q ∈ l, ∃ j x, zE rc q.1 j ∧ zslot m j = some x ∧ zQ rc q.2 j x
  | [], _, q, hq => by cases hq
  | (e, v) :: t, h, q, hq => by
    simp only [zmle, Bool.and_eq_true] at h
    rcases List.mem_cons.mp hq with g1 | g1
    · rw [g1]
      have h := h.1
      split at h
      · rename_i ix w h1 h2
        split at h
        · rename_i u hu
          obtain ⟨j, x, f1, f2, f3⟩ := hK.2.2.2 _ (zfnd_ok hu)
          exact ⟨j, x, zsb_to hg h1 f1, f2, zvle_to hE hg h2 h f3 f1⟩
        · simp only [Bool.and_eq_true] at h
          obtain ⟨h3, h4, h5⟩ := h
          have h3 := e_blt.mp h3
          obtain ⟨j, f0, f1⟩ := zsb_ok hg h1
          unfold zidx at h4
          rw [Bool.and_eq_true] at h4
          have q1 := zEn_pr hE h4.1 (zE_neg f1)
          have q2 := zEn_pr hE h4.2 (zE_ac f1)
          have e1 : Int.sub 1 (c.2.1 : Int) = 1 - c.2.1 := rfl
          rw [e1] at q2
          obtain ⟨gg, rfl, k1, k2, k3⟩ := zK_arr hK (by omega)
          have hx : ∃ x, zslot (.inl (c.1, c.2.1, gg)) j = some x := by
            rcases (by omega : c.1 < 3 ∨ c.1 = 3) with z | z
            · obtain ⟨f, rfl⟩ := k1 z
              exact ⟨_, by simp only [zslot]; rw [if_pos ⟨by omega, by omega⟩]⟩
            · obtain ⟨f, rfl⟩ := k2 z
              exact ⟨_, by simp only [zslot]; rw [if_pos ⟨by omega, by omega⟩]⟩
          obtain ⟨x, hx⟩ := hx
          exact ⟨j, x, f0, hx, zvle_to (w := zpat c.2.2.1) hE hg h2 h5 (hK.2.2.1 j x hx) f1⟩
      · cases h
    · exact zmle_ok hE hg hK h.2 q g1
theorem zcle_ok {c d : zC} {m : mC} (hE : zEn en r) (hg : zGr g r rc) (h : zcle en g c d = true) (hK : zKc r c m) : zKc rc d m := by
  simp only [zcle, Bool.and_eq_true] at h
  obtain ⟨h1, h2, h3, h4⟩ := h
  have h1 := Nat.eq_of_beq_eq_true h1
  have h2 := Nat.eq_of_beq_eq_true h2
  have h3 := zpeq_eq h3
  exact ⟨hK.1, by rw [← h1, ← h2]; exact hK.2.1, by rw [← h3]; exact hK.2.2.1, zmle_ok hE hg hK h4⟩
theorem zlvs_mem (t : zT) (k : Nat) : t.get k ∈ zlvs t := by
  induction t with
  | leaf a => exact List.mem_singleton_self _
  | branch p l r hl hr =>
    have e1 : zlvs (.branch p l r) = zlvs l ++ zlvs r := rfl
    have e3 : (Lean.RArray.branch p l r).get k = (Nat.ble p k).rec (l.get k) (r.get k) := rfl
    rw [e1, e3]
    cases Nat.ble p k with
    | false => exact List.mem_append_left _ hl
    | true => exact List.mem_append_right _ hr
theorem ztle_ok {t u : zT} {h : mH} (hE : zEn en r) (hg : zGr g r rc) (hl : ztle en g t u = true) (hH : zHp r t h) : zHp rc u h := by
  intro k d hk
  have hm := zlvs_mem u k
  unfold zget at hk
  rw [cond_eq_ite] at hk
  split at hk
  · rename_i hb
    have hb := Nat.eq_of_beq_eq_true hb
    have hq := List.all_eq_true.mp hl _ hm
    rw [hb] at hq
    rw [Bool.or_eq_true] at hq
    rcases hq with hq | hq
    · cases hq
    · rw [Nat.add_sub_cancel] at hq
      cases hc : zget t k with
      | none => rw [hc] at hq; cases hq
      | some c =>
        rw [hc] at hq
        obtain ⟨m, h1, h2⟩ := hH k c hc
        cases hk
        exact ⟨m, h1, zcle_ok hE hg hq h2⟩
  · cases hk
theorem zble_ok (hE : zEn en r) : ∀ {g : List zL} {bd : zBd}, zble en g bd = true → ∃ rc, zGr g r rc ∧ zB bd rc
  | [], [], _ => ⟨[], ⟨rfl, fun k e h => by simp at h⟩, ⟨rfl, fun k b h => by simp at h⟩⟩
  | [], _ :: _, h => by cases h
  | _ :: _, [], h => by cases h
  | e :: g', b :: bd', h => by
    simp only [zble, Bool.and_eq_true] at h
    obtain ⟨h1, h2, h3, h4⟩ := h
    obtain ⟨u, hu⟩ := Option.isSome_iff_exists.mp h1
    obtain ⟨x, hx, -⟩ := zub_ok hE.1 hu
    have q1 := zEn_pr hE h2 (zE_ac hx)
    have q2 := zEn_pr hE h3 (zE_ac (zE_neg hx))
    have e1 : Int.neg b.2 = - b.2 := rfl
    rw [e1] at q1
    obtain ⟨rc, hg, hB⟩ := zble_ok hE h4
    refine ⟨x :: rc, ⟨by simp [hg.1], fun k e' hk => ?_⟩, ⟨by simp [hB.1], fun k b' hk => ?_⟩⟩
    · cases k with
      | zero => simp at hk; subst hk; exact ⟨x, rfl, hx⟩
      | succ k => simp at hk; obtain ⟨y, g1, g2⟩ := hg.2 k e' hk; exact ⟨y, by simpa using g1, g2⟩
    · cases k with
      | zero => simp at hk; subst hk; exact ⟨x, rfl, by omega, by omega⟩
      | succ k => simp at hk; obtain ⟨y, g1, g2⟩ := hB.2 k b' hk; exact ⟨y, by simpa using g1, g2⟩
theorem zfle_ok (hE : zEn en r) (hg : zGr g r rc) : ∀ {fa : List zL}, zfle en g fa = true → zFa fa rc
  | [], _, f, hf => by cases hf
  | f :: t, h, f', hf => by
    simp only [zfle, Bool.and_eq_true] at h
    rcases List.mem_cons.mp hf with q | q
    · rw [q]
      have h := h.1
      split at h
      · rename_i e he
        obtain ⟨y, h1, h2⟩ := zsb_ok hg he
        exact ⟨y, h1, zEn_pr hE h h2⟩
      · cases h
    · exact zfle_ok hE hg h.2 f' q
end ZM
