/-! BY HAND: lists of unknowns written out -/
theorem zB_nil : zB [] [] := ⟨rfl, fun k b h => by simp at h⟩
theorem zB_cons {lo hi x : Int} {bd : zBd} {r : List Int} (h1 : lo ≤ x) (h2 : x ≤ hi) (hB : zB bd r) : zB ((lo, hi) :: bd) (x :: r) := by
  refine ⟨by simp only [List.length_cons, hB.1], fun k b hk => ?_⟩
  cases k with
  | zero => simp at hk; subst hk; exact ⟨x, rfl, h1, h2⟩
  | succ k => simp at hk; obtain ⟨y, g1, g2⟩ := hB.2 k b hk; exact ⟨y, by simpa using g1, g2⟩
theorem zB_uncons {lo hi : Int} {bd : zBd} {r : List Int} (hB : zB ((lo, hi) :: bd) r) : ∃ x r', r = x :: r' ∧ lo ≤ x ∧ x ≤ hi ∧ zB bd r' := by
  obtain ⟨x, hx, h1, h2⟩ := hB.2 0 _ rfl
  cases r with
  | nil => cases hx
  | cons y r' =>
    simp at hx
    subst hx
    refine ⟨y, r', rfl, h1, h2, by have := hB.1; simp at this; exact this, fun k b hk => ?_⟩
    obtain ⟨z, g1, g2⟩ := hB.2 (k + 1) b (by simpa using hk)
    exact ⟨z, by simpa using g1, g2⟩
theorem zB_unnil {r : List Int} (hB : zB [] r) : r = [] := List.eq_nil_of_length_eq_zero hB.1.symm
theorem zFa_nil {r : List Int} : zFa [] r := fun f hf => by cases hf
theorem zFa_cons {f : zL} {fa : List zL} {r : List Int} {x : Int} (h1 : zE r f x) (h2 : x ≤ 0) (hF : zFa fa r) : zFa (f :: fa) r := by
  intro g hg
  rcases List.mem_cons.mp hg with z | z
  · rw [z]; exact ⟨x, h1, h2⟩
  · exact hF g z
theorem zFa_hd {f : zL} {fa : List zL} {r : List Int} {x : Int} (hF : zFa (f :: fa) r) (hx : zE r f x) : x ≤ 0 := by
  obtain ⟨y, h1, h2⟩ := hF f (List.mem_cons_self ..)
  rw [zE_fun hx h1]
  exact h2
theorem zFa_tl {f : zL} {fa : List zL} {r : List Int} (hF : zFa (f :: fa) r) : zFa fa r := fun g hg => hF g (List.mem_cons_of_mem _ hg)
def zGe (r : List Int) : List zL → List Int → Prop
  | [], l => l = []
  | e :: g, l => ∃ x l', l = x :: l' ∧ zE r e x ∧ zGe r g l'
theorem zGe_nil {r : List Int} : zGe r [] [] := rfl
theorem zGe_cons {r : List Int} {e : zL} {g : List zL} {x : Int} {l : List Int} (h1 : zE r e x) (h2 : zGe r g l) : zGe r (e :: g) (x :: l) := ⟨x, l, rfl, h1, h2⟩
theorem zGe_eq {r r1 : List Int} : ∀ {g : List zL} {l rc : List Int} {n : Nat}, rc.length = g.length + n → (∀ (k : Nat) (e : zL), g[k]? = some e → ∃ x, rc[k]? = some x ∧ zE (r ++ r1) e x) → zGe r g l → ∃ tl, rc = l ++ tl ∧ tl.length = n
  | [], l, rc, n, hl, _, hG => by
    have hG : l = [] := hG
    subst hG
    exact ⟨rc, rfl, by simpa using hl⟩
  | e :: g, l, rc, n, hl, hx, hG => by
    obtain ⟨x, l', rfl, h1, h2⟩ := hG
    obtain ⟨y, e1, e2⟩ := hx 0 e rfl
    cases rc with
    | nil => cases e1
    | cons a rc' =>
      simp at e1
      subst e1
      have : a = x := zE_fun e2 (zE_mono r1 h1)
      subst this
      obtain ⟨tl, q1, q2⟩ := zGe_eq (r := r) (r1 := r1) (g := g) (l := l') (rc := rc') (n := n) (by simp at hl; omega) (fun k e hk => by
        obtain ⟨z, f1, f2⟩ := hx (k + 1) e (by simpa using hk)
        exact ⟨z, by simpa using f1, f2⟩) h2
      exact ⟨tl, by rw [q1]; rfl, q2⟩
theorem zGe_eq0 {r r1 : List Int} {g : List zL} {l rc : List Int} (hl : rc.length = g.length + 0) (hx : ∀ (k : Nat) (e : zL), g[k]? = some e → ∃ x, rc[k]? = some x ∧ zE (r ++ r1) e x) (hG : zGe r g l) : rc = l := by
  obtain ⟨tl, q1, q2⟩ := zGe_eq hl hx hG
  rw [List.eq_nil_of_length_eq_zero q2, List.append_nil] at q1
  exact q1
theorem zEn_mk {bd : zBd} {fa : List zL} {r : List Int} (h1 : zB bd r) (h2 : zFa fa r) : zEn (bd, fa, []) r := ⟨h1, h2, fun q hq => by cases hq⟩
/-- nothing is called but by contracts that hold of all cells -/
theorem zclT {P : mP} {S : Nat × (Nat → Int32)} {W W' : zW} {J : mH → Prop} {cts : List zCt} (hJ : ∀ h h', J h → zsm W h h' → J h') (hw : ∀ k j, zw W' k j = true → zw W k j = true) (hc : ∀ ct ∈ cts, zCtr P S zTt ct) : zClO P S J (fun d y as t en => zcal W' d y as t en cts) :=
  zcal_ok (Om := zTt) (fun _ _ => trivial) (fun h h' q z _ => hJ h h' q (zsm_tr zsm_rf z hw)) hc
theorem zE_1 {r : List Int} {c a x : Int} {i : Nat} (hi : r[i]? = some x) : zE r (c, [(i, a)]) (c + a * x) := ⟨a * x + 0, zev_cons.mpr ⟨x, 0, hi, rfl, rfl⟩, by omega⟩
theorem zE_2 {r : List Int} {c a b x y : Int} {i j : Nat} (hi : r[i]? = some x) (hj : r[j]? = some y) : zE r (c, [(i, a), (j, b)]) (c + (a * x + b * y)) := ⟨a * x + (b * y + 0), zev_cons.mpr ⟨x, _, hi, zev_cons.mpr ⟨y, 0, hj, rfl, rfl⟩, rfl⟩, by omega⟩
theorem zE_3 {r : List Int} {c a b d x y z : Int} {i j k : Nat} (hi : r[i]? = some x) (hj : r[j]? = some y) (hk : r[k]? = some z) : zE r (c, [(i, a), (j, b), (k, d)]) (c + (a * x + (b * y + d * z))) := ⟨a * x + (b * y + (d * z + 0)), zev_cons.mpr ⟨x, _, hi, zev_cons.mpr ⟨y, _, hj, zev_cons.mpr ⟨z, 0, hk, rfl, rfl⟩, rfl⟩, rfl⟩, by omega⟩
theorem zE_v {r : List Int} {e : zL} {x y : Int} (h : zE r e x) (hx : y = x) : zE r e y := by rw [hx]; exact h
