/-! LINEAR FORMS over numbered unknowns: a number, and unknowns with their factors, by rising number. An unknown's value stands in a list. -/
abbrev zL : Type := Int × List (Nat × Int)
def zK (c : Int) : zL := (c, [])
def zX (k : Nat) : zL := (0, [(k, 1)])
def zle (a b : Int) : Bool := match Int.sub b a with
  | .ofNat _ => true
  | .negSucc _ => false
def zeq (a b : Int) : Bool := zle a b && zle b a
theorem zle_iff {a b : Int} : zle a b = true ↔ a ≤ b := by
  unfold zle
  have e : Int.sub b a = b - a := rfl
  rw [e]
  cases h : b - a with
  | ofNat n => simp only [true_iff]; have : (0 : Int) ≤ b - a := by rw [h]; exact Int.natCast_nonneg n
               omega
  | negSucc n => simp only [Bool.false_eq_true, false_iff]; have : b - a < 0 := by rw [h]; exact Int.negSucc_lt_zero n
                 omega
theorem zeq_iff {a b : Int} : zeq a b = true ↔ a = b := by
  unfold zeq
  rw [Bool.and_eq_true, zle_iff, zle_iff]
  omega
def zins (k : Nat) (v : Int) : List (Nat × Int) → List (Nat × Int)
  | [] => [(k, v)]
  | (j, w) :: t => bif Nat.beq k j then (bif zeq (Int.add w v) 0 then t else (j, Int.add w v) :: t) else bif Nat.blt k j then (k, v) :: (j, w) :: t else (j, w) :: zins k v t
def zadl : List (Nat × Int) → List (Nat × Int) → List (Nat × Int)
  | a, [] => a
  | a, (k, v) :: t => zadl (zins k v a) t
def zmll (c : Int) : List (Nat × Int) → List (Nat × Int)
  | [] => []
  | (k, v) :: t => (k, Int.mul c v) :: zmll c t
def zadd (a b : zL) : zL := (Int.add a.1 b.1, zadl a.2 b.2)
def zscl (c : Int) (a : zL) : zL := bif zeq c 0 then zK 0 else (Int.mul c a.1, zmll c a.2)
def zneg (a : zL) : zL := (Int.neg a.1, zmll (-1) a.2)
def zsub (a b : zL) : zL := zadd a (zneg b)
def zac (a : zL) (c : Int) : zL := (Int.add a.1 c, a.2)
def zeql : List (Nat × Int) → List (Nat × Int) → Bool
  | [], [] => true
  | (k, v) :: t, (j, w) :: u => Nat.beq k j && (zeq v w && zeql t u)
  | _, _ => false
def zeqL (a b : zL) : Bool := zeq a.1 b.1 && zeql a.2 b.2
/-- what a form is worth -/
def zev (r : List Int) : List (Nat × Int) → Option Int
  | [] => some 0
  | (k, v) :: t => match r[k]?, zev r t with
    | some x, some y => some (v * x + y)
    | _, _ => none
def zE (r : List Int) (e : zL) (x : Int) : Prop := ∃ y, zev r e.2 = some y ∧ x = e.1 + y
section ZL
variable {r r' : List Int} {a b : zL} {x y : Int}
theorem zev_cons {k : Nat} {v : Int} {t : List (Nat × Int)} {z : Int} : zev r ((k, v) :: t) = some z ↔ ∃ x y, r[k]? = some x ∧ zev r t = some y ∧ z = v * x + y := by
  simp only [zev]
  constructor
  · intro h
    split at h
    · rename_i x y h1 h2
      exact ⟨x, y, h1, h2, (Option.some.inj h).symm⟩
    · cases h
  · rintro ⟨x, y, h1, h2, rfl⟩
    rw [h1, h2]
theorem zev_ins {k : Nat} {v : Int} {x : Int} (hk : r[k]? = some x) : ∀ {t : List (Nat × Int)} {y : Int}, zev r t = some y → zev r (zins k v t) = some (v * x + y)
  | [], y, h => zev_cons.mpr ⟨x, 0, hk, rfl, by cases h; rfl⟩
  | (j, w) :: t, y, h => by
    obtain ⟨x', y', h1, h2, rfl⟩ := zev_cons.mp h
    simp only [zins, cond_eq_ite]
    split
    · rename_i e
      have e := Nat.eq_of_beq_eq_true e
      subst e
      have : x' = x := Option.some.inj (h1.symm.trans hk)
      subst this
      have ea : Int.add w v = w + v := rfl
      split
      · rename_i e0
        have e0 := zeq_iff.mp e0
        rw [ea] at e0
        rw [h2]
        have : v * x' + (w * x' + y') = (w + v) * x' + y' := by rw [Int.add_mul]; omega
        rw [this, e0, Int.zero_mul, Int.zero_add]
      · refine zev_cons.mpr ⟨x', y', hk, h2, ?_⟩
        rw [ea, Int.add_mul]
        omega
    · split
      · exact zev_cons.mpr ⟨x, w * x' + y', hk, h, rfl⟩
      · refine zev_cons.mpr ⟨x', v * x + y', h1, zev_ins hk h2, ?_⟩
        omega
theorem zev_adl : ∀ {t u : List (Nat × Int)} {y z : Int}, zev r t = some y → zev r u = some z → zev r (zadl t u) = some (y + z)
  | t, [], y, z, h, h' => by
    cases h'
    simp only [zadl, Int.add_zero]
    exact h
  | t, (k, v) :: u, y, z, h, h' => by
    obtain ⟨x', y', h1, h2, rfl⟩ := zev_cons.mp h'
    simp only [zadl]
    rw [zev_adl (zev_ins h1 h) h2]
    congr 1
    omega
theorem zev_mll (c : Int) : ∀ {t : List (Nat × Int)} {y : Int}, zev r t = some y → zev r (zmll c t) = some (c * y)
  | [], y, h => by cases h; simp only [zmll, Int.mul_zero]; rfl
  | (k, v) :: t, y, h => by
    obtain ⟨x', y', h1, h2, rfl⟩ := zev_cons.mp h
    refine zev_cons.mpr ⟨x', c * y', h1, zev_mll c h2, ?_⟩
    have : Int.mul c v = c * v := rfl
    rw [this, Int.mul_add, Int.mul_assoc]
theorem zE_K {c : Int} : zE r (zK c) c := ⟨0, rfl, by simp [zK]⟩
theorem zE_Kx {c : Int} (h : zE r (c, []) x) : x = c := by
  obtain ⟨y, h1, rfl⟩ := h
  cases h1
  simp
theorem zE_X {k : Nat} (h : r[k]? = some x) : zE r (zX k) x := ⟨x, zev_cons.mpr ⟨x, 0, h, rfl, by omega⟩, by simp [zX]⟩
theorem zE_add (ha : zE r a x) (hb : zE r b y) : zE r (zadd a b) (x + y) := by
  obtain ⟨u, h1, rfl⟩ := ha
  obtain ⟨w, h2, rfl⟩ := hb
  refine ⟨u + w, zev_adl h1 h2, ?_⟩
  have : (zadd a b).1 = a.1 + b.1 := rfl
  rw [this]
  omega
theorem zE_scl (c : Int) (ha : zE r a x) : zE r (zscl c a) (c * x) := by
  obtain ⟨u, h1, rfl⟩ := ha
  unfold zscl
  simp only [cond_eq_ite]
  split
  · rename_i h
    have h := zeq_iff.mp h
    subst h
    rw [Int.zero_mul]
    exact zE_K
  · refine ⟨c * u, zev_mll c h1, ?_⟩
    have : Int.mul c a.1 = c * a.1 := rfl
    simp only [this, Int.mul_add]
theorem zE_neg (ha : zE r a x) : zE r (zneg a) (-x) := by
  obtain ⟨u, h1, rfl⟩ := ha
  refine ⟨-1 * u, zev_mll (-1) h1, ?_⟩
  have : (zneg a).1 = - a.1 := rfl
  rw [this]
  omega
theorem zE_sub (ha : zE r a x) (hb : zE r b y) : zE r (zsub a b) (x - y) := by
  have := zE_add ha (zE_neg hb)
  rw [← Int.sub_eq_add_neg] at this
  exact this
theorem zE_ac {c : Int} (ha : zE r a x) : zE r (zac a c) (x + c) := by
  obtain ⟨u, h1, rfl⟩ := ha
  refine ⟨u, h1, ?_⟩
  have : (zac a c).1 = a.1 + c := rfl
  rw [this]
  omega
theorem zE_fun (h : zE r a x) (h' : zE r a y) : x = y := by
  obtain ⟨u, h1, rfl⟩ := h
  obtain ⟨w, h2, rfl⟩ := h'
  rw [h1] at h2
  cases h2
  rfl
theorem zev_mono {t : List (Nat × Int)} {y : Int} (s : List Int) (h : zev r t = some y) : zev (r ++ s) t = some y := by
  induction t generalizing y with
  | nil => exact h
  | cons q t ih =>
    obtain ⟨k, v⟩ := q
    obtain ⟨x', y', h1, h2, rfl⟩ := zev_cons.mp h
    refine zev_cons.mpr ⟨x', y', ?_, ih h2, rfl⟩
    rw [List.getElem?_append_left (List.getElem?_eq_some_iff.mp h1).1]
    exact h1
theorem zE_mono (s : List Int) (h : zE r a x) : zE (r ++ s) a x := by
  obtain ⟨u, h1, rfl⟩ := h
  exact ⟨u, zev_mono s h1, rfl⟩
theorem zeql_eq : ∀ {t u : List (Nat × Int)}, zeql t u = true → t = u
  | [], [], _ => rfl
  | (k, v) :: t, (j, w) :: u, h => by
    simp only [zeql, Bool.and_eq_true] at h
    rw [Nat.eq_of_beq_eq_true h.1, zeq_iff.mp h.2.1, zeql_eq h.2.2]
  | [], _ :: _, h => by simp [zeql] at h
  | _ :: _, [], h => by simp [zeql] at h
theorem zeqL_eq (h : zeqL a b = true) : a = b := by
  simp only [zeqL, Bool.and_eq_true] at h
  exact Prod.ext (zeq_iff.mp h.1) (zeql_eq h.2)
end ZL
/-! BOUNDS of the unknowns, and facts: forms that are not above 0 -/
abbrev zBd : Type := List (Int × Int)
def zubl (bd : zBd) : List (Nat × Int) → Option Int
  | [] => some 0
  | (k, v) :: t => match bd[k]?, zubl bd t with
    | some b, some y => some (Int.add (match v with
      | .ofNat _ => Int.mul v b.2
      | .negSucc _ => Int.mul v b.1) y)
    | _, _ => none
def zub (bd : zBd) (e : zL) : Option Int := match zubl bd e.2 with
  | some y => some (Int.add e.1 y)
  | none => none
def zle0 (bd : zBd) (e : zL) : Bool := match zub bd e with
  | some u => zle u 0
  | none => false
def zshr (a b : List (Nat × Int)) : Bool := a.any (fun t => b.any (fun u => Nat.beq t.1 u.1 && zeq t.2 u.2))
/-- is the form not above 0? -/
def zpr (bd : zBd) (fa : List zL) : Nat → zL → Bool
  | 0, e => zle0 bd e
  | d + 1, e => zle0 bd e || fa.any (fun f => zshr e.2 f.2 && zpr bd fa d (zsub e f))
def zB (bd : zBd) (r : List Int) : Prop := bd.length = r.length ∧ ∀ (k : Nat) (b : Int × Int), bd[k]? = some b → ∃ x, r[k]? = some x ∧ b.1 ≤ x ∧ x ≤ b.2
def zFa (fa : List zL) (r : List Int) : Prop := ∀ f ∈ fa, ∃ x, zE r f x ∧ x ≤ 0
section ZB
variable {bd : zBd} {fa : List zL} {r : List Int} {e : zL} {x : Int}
theorem zubl_ok (hB : zB bd r) : ∀ {t : List (Nat × Int)} {u : Int}, zubl bd t = some u → ∃ y, zev r t = some y ∧ y ≤ u
  | [], u, h => ⟨0, rfl, by cases h; exact Int.le_refl _⟩
  | (k, v) :: t, u, h => by
    simp only [zubl] at h
    split at h
    · rename_i b y h1 h2
      obtain ⟨x, hx, hl, hh⟩ := hB.2 k b h1
      obtain ⟨y', hy, hle⟩ := zubl_ok hB h2
      refine ⟨v * x + y', zev_cons.mpr ⟨x, y', hx, hy, rfl⟩, ?_⟩
      have h := Option.some.inj h
      rw [← h]
      cases v with
      | ofNat n =>
        show Int.ofNat n * x + y' ≤ Int.ofNat n * b.2 + y
        have := Int.mul_le_mul_of_nonneg_left hh (Int.natCast_nonneg n)
        exact Int.add_le_add this hle
      | negSucc n =>
        show Int.negSucc n * x + y' ≤ Int.negSucc n * b.1 + y
        have := Int.mul_le_mul_of_nonpos_left (a := Int.negSucc n) (by have := Int.negSucc_lt_zero n; omega) hl
        exact Int.add_le_add this hle
    · cases h
theorem zub_ok (hB : zB bd r) {u : Int} (h : zub bd e = some u) : ∃ x, zE r e x ∧ x ≤ u := by
  unfold zub at h
  split at h
  · rename_i y hy
    obtain ⟨y', h1, h2⟩ := zubl_ok hB hy
    refine ⟨e.1 + y', ⟨y', h1, rfl⟩, ?_⟩
    have h := Option.some.inj h
    have : Int.add e.1 y = e.1 + y := rfl
    omega
  · cases h
theorem zub_le (hB : zB bd r) {u : Int} (h : zub bd e = some u) (hx : zE r e x) : x ≤ u := by
  obtain ⟨x', h1, h2⟩ := zub_ok hB h
  rw [zE_fun hx h1]
  exact h2
theorem zle0_ok (hB : zB bd r) (h : zle0 bd e = true) (hx : zE r e x) : x ≤ 0 := by
  unfold zle0 at h
  split at h
  · rename_i u hu
    have := zub_le hB hu hx
    have := zle_iff.mp h
    omega
  · cases h
theorem zpr_ok (hB : zB bd r) (hF : zFa fa r) : ∀ {d : Nat} {e : zL} {x : Int}, zpr bd fa d e = true → zE r e x → x ≤ 0
  | 0, e, x, h, hx => zle0_ok hB h hx
  | d + 1, e, x, h, hx => by
    simp only [zpr, Bool.or_eq_true, List.any_eq_true, Bool.and_eq_true] at h
    rcases h with h | ⟨f, hf, -, h⟩
    · exact zle0_ok hB h hx
    · obtain ⟨z, hz, hz0⟩ := hF f hf
      have := zpr_ok hB hF h (zE_sub hx hz)
      omega
theorem zB_len (hB : zB bd r) : bd.length = r.length := hB.1
theorem zB_app (hB : zB bd r) {lo hi : Int} (h1 : lo ≤ x) (h2 : x ≤ hi) : zB (bd ++ [(lo, hi)]) (r ++ [x]) := by
  refine ⟨by simp [hB.1], fun k b hk => ?_⟩
  rcases Nat.lt_or_ge k bd.length with hl | hl
  · rw [List.getElem?_append_left hl] at hk
    obtain ⟨y, q1, q2⟩ := hB.2 k b hk
    exact ⟨y, by rw [List.getElem?_append_left (by rw [← hB.1]; exact hl)]; exact q1, q2⟩
  · rw [List.getElem?_append_right hl] at hk
    have : k - bd.length = 0 := by
      have := (List.getElem?_eq_some_iff.mp hk).1
      simp at this
      exact this
    rw [this] at hk
    cases hk
    refine ⟨x, ?_, h1, h2⟩
    rw [List.getElem?_append_right (by rw [← hB.1]; exact hl), ← hB.1, this]
    rfl
theorem zFa_mono (s : List Int) (h : zFa fa r) : zFa fa (r ++ s) := by
  intro f hf
  obtain ⟨y, h1, h2⟩ := h f hf
  exact ⟨y, zE_mono s h1, h2⟩
theorem zX_app (hB : zB bd r) : zE (r ++ [x]) (zX bd.length) x := by
  refine zE_X ?_
  rw [hB.1, List.getElem?_append_right (Nat.le_refl _), Nat.sub_self]
  rfl
end ZB
