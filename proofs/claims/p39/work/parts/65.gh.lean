/-! BY HAND: many places told at once; what a post says of a place; what is so while a rule is read -/
def zVI (r : List Int) (v : zV) (x : Int) : Prop := match v with
  | .inl d => zE r d x
  | .inr (.inr (.inr (.inl (lo, hi)))) => lo ≤ x ∧ x ≤ hi
  | _ => False
abbrev zSt0 : Type := List (Nat × Nat × zL × zV)
noncomputable def zads : zT → zSt0 → zT
  | t, [] => t
  | t, (k, _, e, v) :: u => zads (zad t k e v) u
noncomputable def zadc : zT → zSt0 → Bool
  | _, [] => true
  | t, (k, n, e, v) :: u => zisI t k e && (Nat.beq (zlen t k) n && zadc (zad t k e v) u)
def zSp (r : List Int) (h : mH) : zSt0 → Prop
  | [] => True
  | (k, n, e, v) :: u => (∃ j, zE r e j ∧ 0 ≤ j ∧ j < (n : Int) ∧ zVI r v (zI h k j)) ∧ zSp r h u
theorem zad_gen {r : List Int} {t : zT} {h : mH} {k : Nat} {e : zL} {v : zV} {j : Int} (hH : zHp r t h) (hk : zisI t k e = true) (he : zE r e j) (h0 : 0 ≤ j) (h1 : j < zlen t k) (hv : zVI r v (zI h k j)) : zHp r (zad t k e v) h := by
  unfold zisI at hk
  split at hk
  · rename_i c hc
    obtain ⟨m, e1, hK⟩ := hH k c hc
    have key : ∃ y : Int32, zslot m j = some (.int y) := by
      split at hk
      · rename_i d hq
        obtain ⟨j', v, f1, f2, y, rfl, f3⟩ := hK.2.2.2 _ (zfnd_ok hq)
        rw [zE_fun he f1]
        exact ⟨y, f2⟩
      · rename_i d hq
        obtain ⟨a, b⟩ := d
        obtain ⟨j', v, f1, f2, y, rfl, f3⟩ := hK.2.2.2 _ (zfnd_ok hq)
        rw [zE_fun he f1]
        exact ⟨y, f2⟩
      · have hk0 := e_blt.mp hk
        obtain ⟨g, rfl⟩ := zK_ints hK hk0
        have hl : zlen t k = c.2.1 := by unfold zlen; rw [hc]
        exact ⟨g j.toNat, by simp only [zslot]; rw [if_pos ⟨h0, by omega⟩]⟩
      · cases hk
    obtain ⟨y, hy⟩ := key
    refine zad_ok hH e1 he hy ?_
    rw [zI_at e1 hy] at hv
    match v, hv with
    | .inl d, hv => exact ⟨y, rfl, hv⟩
    | .inr (.inr (.inr (.inl (lo, hi)))), hv => exact ⟨y, rfl, hv.1, hv.2⟩
    | .inr (.inl _), hv => exact hv.elim
    | .inr (.inr (.inl _)), hv => exact hv.elim
    | .inr (.inr (.inr (.inr _))), hv => exact hv.elim
  · cases hk
theorem zads_ok {r : List Int} {h : mH} : ∀ {sp : zSt0} {t : zT}, zHp r t h → zadc t sp = true → zSp r h sp → zHp r (zads t sp) h
  | [], t, hH, _, _ => hH
  | (k, n, e, v) :: u, t, hH, hc, hs => by
    simp only [zadc, Bool.and_eq_true] at hc
    obtain ⟨⟨j, a1, a2, a3, a4⟩, hu⟩ := hs
    have hn := Nat.eq_of_beq_eq_true hc.2.1
    exact zads_ok (sp := u) (t := zad t k e v) (zad_gen hH hc.1 a1 a2 (by rw [hn]; exact a3) a4) hc.2.2 hu
/-- less told of the cells -/
theorem zHp_le {r : List Int} {bd : zBd} {t u : zT} {h : mH} (hB : zB bd r) (hl : ztle (bd, [], []) (znew 0 bd.length) t u = true) (hH : zHp r t h) : zHp r u h := by
  refine ztle_ok (rc := r) (zEn_mk hB zFa_nil) ⟨by rw [znew_len]; exact hB.1, fun k e hk => ?_⟩ hl hH
  have := znew_get hk
  rw [Nat.zero_add] at this
  subst this
  have hk2 : k < bd.length := by have := (List.getElem?_eq_some_iff.mp hk).1; rw [znew_len] at this; exact this
  exact ⟨r[k]'(by rw [← hB.1]; exact hk2), List.getElem?_eq_getElem _, zE_X (List.getElem?_eq_getElem _)⟩
theorem zHp_T {r : List Int} {en : zN} {t u : zT} {h : mH} (hE : zEn en r) (hl : ztle en [] t u = true) (hH : zHp r t h) : zHp [] u h := ztle_ok (rc := []) hE ⟨rfl, fun k e hk => by simp at hk⟩ hl hH
def zpw1 (wr : List (Nat × List (zL × zV))) (k : Nat) (e : zL) : Option zV := match wr with
  | [] => none
  | (a, ms) :: u => bif Nat.beq a k then zfnd e ms else zpw1 u k e
theorem zpw1_ok {r : List Int} {h : mH} {k : Nat} {e : zL} : ∀ {wr : List (Nat × List (zL × zV))} {v : zV} {j : Int}, zPw r wr h → zpw1 wr k e = some v → zE r e j → ∃ m x, mi_c h k = some m ∧ zslot m j = some x ∧ zQ r v j x
  | [], v, j, _, hk, _ => by cases hk
  | (a, ms) :: u, v, j, hp, hk, he => by
    simp only [zpw1, cond_eq_ite] at hk
    split at hk
    · rename_i ha
      have ha := Nat.eq_of_beq_eq_true ha
      subst ha
      obtain ⟨m, h1, h2⟩ := hp _ (List.mem_cons_self ..)
      obtain ⟨j', x, g1, g2, g3⟩ := h2 _ (zfnd_ok hk)
      have := zE_fun he g1
      subst this
      exact ⟨m, x, h1, g2, g3⟩
    · exact zpw1_ok (fun q hq => hp q (List.mem_cons_of_mem _ hq)) hk he
def zpwk (wr : List (Nat × List (zL × zV))) (k : Nat) (e d : zL) : Bool := match zpw1 wr k e with
  | some (.inl d') => zeqL d' d
  | _ => false
theorem zPw_ck {r : List Int} {h : mH} {wr : List (Nat × List (zL × zV))} {k : Nat} {e d : zL} {j x : Int} (hp : zPw r wr h) (hk : zpwk wr k e d = true) (he : zE r e j) (hd : zE r d x) : zI h k j = x := by
  unfold zpwk at hk
  split at hk
  · rename_i d' h1
    have := zeqL_eq hk
    subst this
    obtain ⟨m, y, g1, g2, i, rfl, g3⟩ := zpw1_ok hp h1 he
    rw [zI_at g1 g2]
    exact zE_fun g3 hd
  · cases hk
def zpwb (wr : List (Nat × List (zL × zV))) (k : Nat) (e : zL) (lo hi : Int) : Bool := match zpw1 wr k e with
  | some (.inr (.inr (.inr (.inl (a, b))))) => zle lo a && zle b hi
  | _ => false
theorem zPw_cb {r : List Int} {h : mH} {wr : List (Nat × List (zL × zV))} {k : Nat} {e : zL} {j lo hi : Int} (hp : zPw r wr h) (hk : zpwb wr k e lo hi = true) (he : zE r e j) : lo ≤ zI h k j ∧ zI h k j ≤ hi := by
  unfold zpwb at hk
  split at hk
  · rename_i a b h1
    simp only [Bool.and_eq_true, zle_iff] at hk
    obtain ⟨m, y, g1, g2, i, rfl, g3, g4⟩ := zpw1_ok hp h1 he
    rw [zI_at g1 g2]
    exact ⟨by omega, by omega⟩
  · cases hk
/-! a rule while it is read -/
def zbin (x : Int) : Prop := x = 1 ∨ x = 2 ∨ x = 4 ∨ x = 5 ∨ x = 6
def zbsg (s : Int) : Prop := s ≠ 126 ∧ ¬ (97 ≤ s ∧ s ≤ 122)
/-- the pile above its first: how many joints, NOTs, brackets -/
def zpl (g s : Int → Int) : Nat → Int → Int → Int → Prop
  | 0, nb, nn, nr => nb = 0 ∧ nn = 0 ∧ nr = 0
  | k + 1, nb, nn, nr => (zbin (g (k + 1)) ∧ zbsg (s (k + 1)) ∧ zpl g s k (nb - 1) nn nr) ∨ (g (k + 1) = 3 ∧ s (k + 1) = 126 ∧ zpl g s k nb (nn - 1) nr) ∨ (g (k + 1) = 7 ∧ zpl g s k nb nn (nr - 1))
theorem zpl_b {g s : Int → Int} : ∀ {k : Nat} {nb nn nr : Int}, zpl g s k nb nn nr → 0 ≤ nb ∧ 0 ≤ nn ∧ 0 ≤ nr ∧ nb + nn + nr = k
  | 0, nb, nn, nr, h => by
    obtain ⟨h1, h2, h3⟩ := h
    omega
  | k + 1, nb, nn, nr, h => by
    rcases h with ⟨-, -, h⟩ | ⟨-, -, h⟩ | ⟨-, h⟩ <;> have := zpl_b h <;> omega
theorem zpl_eq {g s g' s' : Int → Int} : ∀ {k : Nat} {nb nn nr : Int}, (∀ j : Int, 1 ≤ j → j ≤ k → g' j = g j ∧ s' j = s j) → zpl g s k nb nn nr → zpl g' s' k nb nn nr
  | 0, nb, nn, nr, _, h => h
  | k + 1, nb, nn, nr, he, h => by
    have e := he ((k : Int) + 1) (by omega) (by omega)
    have ih : ∀ {nb nn nr : Int}, zpl g s k nb nn nr → zpl g' s' k nb nn nr := fun q => zpl_eq (fun j a b => he j a (by omega)) q
    rcases h with ⟨a, b, h⟩ | ⟨a, b, h⟩ | ⟨a, h⟩
    · exact Or.inl ⟨by rw [e.1]; exact a, by rw [e.2]; exact b, ih h⟩
    · exact Or.inr (Or.inl ⟨by rw [e.1]; exact a, by rw [e.2]; exact b, ih h⟩)
    · exact Or.inr (Or.inr ⟨by rw [e.1]; exact a, ih h⟩)
/-- w: whether a unit is wanted; b: the bank; n0: where the rule began -/
def zGp (w b n0 : Int) (h : mH) : Prop := ∃ (k N : Nat) (nb nn nr H : Int), zI h 469 38 = k + 1 ∧ zI h 492 0 = 8 ∧ zpl (zI h 492) (zI h 493) k nb nn nr ∧ nn + nr = zI h 469 37 ∧ nn + nr ≤ 7 ∧
  zI h 469 36 = n0 + N ∧ zhg (zI h 490) n0 N H ∧ H = nb + (1 - w) ∧ H ≤ zI h 469 39 ∧ zI h 469 39 ≤ 30 ∧ 0 ≤ zI h 481 b ∧ zI h 481 b ≤ 60 ∧ 560 * b ≤ n0 ∧
  (w = 1 → n0 + N - 560 * b + nb + nn ≤ 9 * zI h 481 b + zI h 469 37) ∧ (w = 0 → n0 + N - 560 * b + nb + nn ≤ 9 * zI h 481 b - 1)
/-- a token stands here; or the text is at its end -/
def zTA (h : mH) : Prop := 1 ≤ zI h 469 8 ∧ zI h 469 8 ≤ 5 ∧ 0 ≤ zI h 469 6 ∧ zI h 469 6 < zI h 469 7 ∧ zI h 469 7 ≤ zI h 469 3 ∧ zI h 469 3 ≤ 1600
def zTB (h : mH) : Prop := zI h 469 8 = 0 ∧ zI h 469 6 = zI h 469 3 ∧ zI h 469 7 = zI h 469 3 ∧ 0 ≤ zI h 469 3 ∧ zI h 469 3 ≤ 1600
