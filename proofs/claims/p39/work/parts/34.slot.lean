/-! INCLUSION of a value in a pattern, READING and WRITING of places -/
/-- a step's word -/
def zstp (en : zN) (e : zL) : Bool := match (zrem 16 e).2 with
  | [] => bif zeq (zrem 16 e).1 1 then zin en (zquo 16 e) 0 5 else true
  | _ => zin en (zrem 16 e) 2 15
/-- no place between these bounds is 48 mod 69 -/
def zmiss (lo hi : Int) : Bool := zle (Int.add hi 1) (Int.add lo (Int.emod (Int.sub 48 lo) 69))
/-- a row's place that isn't the board's size -/
def zoth (en : zN) (ix : zL) : Bool := (match (zrem 69 ix).2 with
  | [] => !(zeq (zrem 69 ix).1 48)
  | _ => false) || (match zub en.1 (zneg ix), zub en.1 ix with
  | some l, some h => zmiss (Int.neg l) h
  | _, _ => false)
def zhld (en : zN) (e ix : zL) : Bool := zoth en ix || (zin en e 0 20 || en.2.2.any (fun q => zeqL e (zX q.2) && zeqL (zrem 69 (zsub ix q.1)) (zK 0)))
def zpin (en : zN) (v : zV) (p : zP) (ix : zL) : Bool := match p with
  | .inl (lo, hi) => (match v with
    | .inl e => zin en e lo hi
    | .inr (.inr (.inr (.inl (a, b)))) => zle lo a && zle b hi
    | _ => false)
  | .inr 0 => (match v with
    | .inr (.inr (.inl _)) => true
    | .inr (.inr (.inr (.inr 0))) => true
    | _ => false)
  | .inr 1 => (match v with
    | .inl e => zstp en e
    | .inr (.inr (.inr (.inr 1))) => true
    | _ => false)
  | .inr 2 => (match v with
    | .inl e => zhld en e ix
    | .inr (.inr (.inr (.inl (a, b)))) => (zle 0 a && zle b 20) || zoth en ix
    | .inr (.inr (.inr (.inr 2))) => true
    | _ => false)
  | .inr _ => true
/-- unknowns that can be but one number -/
def znrl (bd : zBd) : List (Nat × Int) → Int × List (Nat × Int)
  | [] => (0, [])
  | (k, v) :: t => match bd[k]? with
    | some b => bif zeq b.1 b.2 then (Int.add (Int.mul v b.1) (znrl bd t).1, (znrl bd t).2) else ((znrl bd t).1, (k, v) :: (znrl bd t).2)
    | none => ((znrl bd t).1, (k, v) :: (znrl bd t).2)
def znrm (bd : zBd) (e : zL) : zL := (Int.add e.1 (znrl bd e.2).1, (znrl bd e.2).2)
def znrv (bd : zBd) (v : zV) : zV := match v with
  | .inl e => .inl (znrm bd e)
  | .inr (.inr (.inl e)) => .inr (.inr (.inl (znrm bd e)))
  | v => v
/-- a pattern's value, by a new unknown -/
def zmat (en : zN) (p : zP) (ix : zL) : List (zV × zN) := match p with
  | .inl (lo, hi) => [(.inl (zfr en lo hi).1, (zfr en lo hi).2)]
  | .inr 0 => [(.inr (.inr (.inl (zal en).1)), (zal en).2)]
  | .inr 1 => [(.inl (zac (zscl 16 (zfr en 0 5).1) 1), (zfr en 0 5).2), (.inl (zscl 16 (zfr en (-134217728) 134217727).1), (zfr en (-134217728) 134217727).2),
      (.inl (zadd (zscl 16 (zfr en (-134217728) 134217727).1) (zfr (zfr en (-134217728) 134217727).2 2 15).1), (zfr (zfr en (-134217728) 134217727).2 2 15).2)]
  | .inr 2 => (match ix.2 with
    | [] => bif zeq (Int.emod ix.1 69) 48 then [(.inl (zfr en 0 20).1, (zfr en 0 20).2)] else [(.inl (zai en).1, (zai en).2)]
    | _ => [(.inl (zai en).1, ((zai en).2.1, (zai en).2.2.1, (zai en).2.2.2 ++ [(ix, en.1.length)]))])
  | .inr _ => []
def zfnd (ix : zL) : List (zL × zV) → Option zV
  | [] => none
  | (e, v) :: t => bif zeqL e ix then some v else zfnd ix t
def zdel (ix : zL) : List (zL × zV) → List (zL × zV)
  | [] => []
  | (e, v) :: t => bif zeqL e ix then zdel ix t else (e, v) :: zdel ix t
/-- reading the place ix of c: the value, the cell told anew, what is known then -/
def zld (en : zN) (c : zC) (ix : zL) : List (zV × zC × zN) := match zfnd ix c.2.2.2 with
  | some (.inr (.inr (.inr p))) => (zmat en p ix).map (fun q => (q.1, (c.1, c.2.1, c.2.2.1, (ix, q.1) :: zdel ix c.2.2.2), q.2))
  | some v => [(znrv en.1 v, c, en)]
  | none => (zmat en c.2.2.1 ix).map (fun q => (q.1, (c.1, c.2.1, c.2.2.1, (ix, q.1) :: c.2.2.2), q.2))
/-- are these two places apart? -/
def zapt (en : zN) (a b : zL) : Bool := match (zsub a b).2 with
  | [] => !(zeq (zsub a b).1 0)
  | _ => zpr en.1 en.2.1 1 (zac (zsub a b) 1) || zpr en.1 en.2.1 1 (zac (zsub b a) 1)
def zkeep (en : zN) (ix : zL) : List (zL × zV) → List (zL × zV)
  | [] => []
  | (e, v) :: t => bif zapt en e ix then (e, v) :: zkeep en ix t else zkeep en ix t
def zsto (en : zN) (c : zC) (ix : zL) (v : zV) : zC := (c.1, c.2.1, c.2.2.1, (ix, v) :: zkeep en ix c.2.2.2)
def znpt (v : zV) : Bool := match v with
  | .inr (.inr (.inr _)) => false
  | _ => true
section ZQ
variable {en : zN} {r : List Int} {e ix : zL} {X j : Int} {v : zV} {p : zP} {x : Value} {c : zC} {m : mC} {i : Int32}
theorem zstp_ok (hE : zEn en r) (h : zstp en e = true) (hX : zE r e i.toInt) : i.toInt % 16 = 1 → 0 ≤ i.toInt / 16 ∧ i.toInt / 16 ≤ 5 := by
  intro h1
  obtain ⟨p, q, e1, e2, e3⟩ := zsplit (d := 16) hX
  unfold zstp at h
  split at h
  · rename_i hn
    obtain ⟨y, hy, hq⟩ := e2
    rw [hn] at hy
    cases hy
    have hb : 0 ≤ (zrem 16 e).1 ∧ (zrem 16 e).1 < 16 := ⟨Int.emod_nonneg _ (by decide), Int.emod_lt_of_pos _ (by decide)⟩
    rw [cond_eq_ite] at h
    split at h
    · have := zin_ok hE h e1
      omega
    · rename_i hz
      exfalso
      apply hz
      rw [zeq_iff]
      omega
  · have := zin_ok hE h e2
    omega
theorem zmiss_ok {lo hi : Int} (h : zmiss lo hi = true) (h1 : lo ≤ j) (h2 : j ≤ hi) : j % 69 ≠ 48 := by
  unfold zmiss at h
  have h := zle_iff.mp h
  have e1 : Int.add hi 1 = hi + 1 := rfl
  have e2 : Int.add lo (Int.emod (Int.sub 48 lo) 69) = lo + (48 - lo) % 69 := rfl
  rw [e1, e2] at h
  omega
theorem zoth_ok (hE : zEn en r) (h : zoth en ix = true) (hj : zE r ix j) : j % 69 ≠ 48 := by
  unfold zoth at h
  rw [Bool.or_eq_true] at h
  rcases h with h | h
  · split at h
    · rename_i hn
      obtain ⟨p, q, -, ⟨y, hy, hq⟩, e3⟩ := zsplit (d := 69) hj
      rw [hn] at hy
      cases hy
      have hb : 0 ≤ (zrem 69 ix).1 ∧ (zrem 69 ix).1 < 69 := ⟨Int.emod_nonneg _ (by decide), Int.emod_lt_of_pos _ (by decide)⟩
      have : ¬ (zrem 69 ix).1 = 48 := by
        intro q
        rw [zeq_iff.mpr q] at h
        cases h
      omega
    · cases h
  · split at h
    · rename_i l hh h1 h2
      have q1 := zub_le hE.1 h1 (zE_neg hj)
      have q2 := zub_le hE.1 h2 hj
      exact zmiss_ok h (by show -l ≤ j; omega) q2
    · cases h
theorem zhld_ok (hE : zEn en r) (h : zhld en e ix = true) (hX : zE r e X) (hj : zE r ix j) : j % 69 = 48 → 0 ≤ X ∧ X ≤ 20 := by
  intro h48
  unfold zhld at h
  simp only [Bool.or_eq_true, List.any_eq_true, Bool.and_eq_true] at h
  rcases h with h | h | ⟨q, hq, h1, h2⟩
  · exact absurd h48 (zoth_ok hE h hj)
  · exact zin_ok hE h hX
  · obtain ⟨jq, xq, f1, f2, f3⟩ := hE.2.2 q hq
    have e1 := zeqL_eq h1
    rw [e1] at hX
    have := zE_fun hX (zE_X f2)
    subst this
    obtain ⟨p, s, -, g1, g2⟩ := zsplit (d := 69) (zE_sub hj f1)
    rw [zeqL_eq h2] at g1
    have := zE_fun g1 (zE_K (r := r) (c := 0))
    exact f3 (by omega)
theorem zpin_ok (hE : zEn en r) (h : zpin en v p ix = true) (hv : zQ r v j x) (hj : zE r ix j) : zD p j x := by
  unfold zpin at h
  split at h
  · split at h
    · obtain ⟨i, rfl, h2⟩ := hv
      have := zin_ok hE h h2
      exact ⟨i, rfl, this.1, this.2⟩
    · obtain ⟨i, rfl, h2, h3⟩ := hv
      rw [Bool.and_eq_true, zle_iff, zle_iff] at h
      exact ⟨i, rfl, by omega, by omega⟩
    · cases h
  · split at h
    · obtain ⟨l, rfl, -⟩ := hv
      exact ⟨l, rfl⟩
    · exact hv
    · cases h
  · split at h
    · obtain ⟨i, rfl, h2⟩ := hv
      exact ⟨i, rfl, zstp_ok hE h h2⟩
    · exact hv
    · cases h
  · split at h
    · obtain ⟨i, rfl, h2⟩ := hv
      exact ⟨i, rfl, zhld_ok hE h h2 hj⟩
    · obtain ⟨i, rfl, h2, h3⟩ := hv
      refine ⟨i, rfl, fun h48 => ?_⟩
      rw [Bool.or_eq_true] at h
      rcases h with h | h
      · rw [Bool.and_eq_true, zle_iff, zle_iff] at h
        omega
      · exact absurd h48 (zoth_ok hE h hj)
    · exact hv
    · cases h
  · rename_i k h0 h1 h2
    unfold zD
    split
    · rename_i q; cases q
    · rename_i q; cases q; exact absurd rfl h0
    · rename_i q; cases q; exact absurd rfl h1
    · rename_i q; cases q; exact absurd rfl h2
    · trivial
theorem znrl_ok {bd : zBd} (hB : zB bd r) : ∀ {t : List (Nat × Int)} {y : Int}, zev r t = some y → ∃ z, zev r (znrl bd t).2 = some z ∧ y = (znrl bd t).1 + z
  | [], y, h => ⟨0, rfl, by cases h; rfl⟩
  | (k, v) :: t, y, h => by
    obtain ⟨x', y', h1, h2, rfl⟩ := zev_cons.mp h
    obtain ⟨z, h3, rfl⟩ := znrl_ok hB h2
    simp only [znrl]
    split
    · rename_i b hb
      obtain ⟨x2, hx2, hl, hh⟩ := hB.2 k b hb
      rw [h1] at hx2
      cases hx2
      rw [cond_eq_ite]
      split
      · rename_i he
        have he := zeq_iff.mp he
        refine ⟨z, h3, ?_⟩
        have : x' = b.1 := by omega
        rw [this]
        show _ = v * b.1 + (znrl bd t).1 + z
        omega
      · exact ⟨v * x' + z, zev_cons.mpr ⟨x', z, h1, h3, rfl⟩, by show _ = (znrl bd t).1 + _; omega⟩
    · exact ⟨v * x' + z, zev_cons.mpr ⟨x', z, h1, h3, rfl⟩, by show _ = (znrl bd t).1 + _; omega⟩
theorem znrm_ok {bd : zBd} (hB : zB bd r) (h : zE r e X) : zE r (znrm bd e) X := by
  obtain ⟨y, h1, rfl⟩ := h
  obtain ⟨z, h2, rfl⟩ := znrl_ok hB h1
  refine ⟨z, h2, ?_⟩
  show _ = e.1 + (znrl bd e.2).1 + z
  omega
theorem znrv_ok {bd : zBd} (hB : zB bd r) (h : zQ r v j x) : zQ r (znrv bd v) j x := by
  match v, h with
  | .inl e, ⟨i, h1, h2⟩ => exact ⟨i, h1, znrm_ok hB h2⟩
  | .inr (.inl k), h => exact h
  | .inr (.inr (.inl e)), ⟨l, h1, h2⟩ => exact ⟨l, h1, znrm_ok hB h2⟩
  | .inr (.inr (.inr p)), h => exact h
theorem zmat_ok (hE : zEn en r) (h : zD p j x) (hj : zE r ix j) (hp : ∀ k, p = .inr k → k < 3) : ∃ q ∈ zmat en p ix, ∃ s, zEn q.2 (r ++ s) ∧ zQ (r ++ s) q.1 j x ∧ znpt q.1 = true := by
  unfold zmat
  split
  · rename_i lo hi
    obtain ⟨i, rfl, h1, h2⟩ := h
    obtain ⟨s, q1, q2⟩ := zfr_ok hE h1 h2
    exact ⟨_, List.mem_singleton_self _, s, q1, ⟨i, rfl, q2⟩, rfl⟩
  · obtain ⟨l, rfl⟩ := h
    obtain ⟨s, q1, q2⟩ := zal_ok hE l
    exact ⟨_, List.mem_singleton_self _, s, q1, ⟨l, rfl, q2⟩, rfl⟩
  · obtain ⟨i, rfl, h1⟩ := h
    have hb := zI_b i
    by_cases e1 : i.toInt % 16 = 1
    · obtain ⟨s, q1, q2⟩ := zfr_ok hE (h1 e1).1 (h1 e1).2
      refine ⟨_, List.mem_cons_self .., s, q1, ⟨i, rfl, ?_⟩, rfl⟩
      have := zE_ac (c := 1) (zE_scl 16 q2)
      rw [show 16 * (i.toInt / 16) + 1 = i.toInt by omega] at this
      exact this
    · by_cases e0 : i.toInt % 16 = 0
      · obtain ⟨s, q1, q2⟩ := zfr_ok (z := i.toInt / 16) hE (show (-134217728 : Int) ≤ i.toInt / 16 by omega) (show i.toInt / 16 ≤ 134217727 by omega)
        refine ⟨_, List.mem_cons_of_mem _ (List.mem_cons_self ..), s, q1, ⟨i, rfl, ?_⟩, rfl⟩
        have := zE_scl 16 q2
        rw [show 16 * (i.toInt / 16) = i.toInt by omega] at this
        exact this
      · obtain ⟨s, q1, q2⟩ := zfr_ok (z := i.toInt / 16) hE (show (-134217728 : Int) ≤ i.toInt / 16 by omega) (show i.toInt / 16 ≤ 134217727 by omega)
        obtain ⟨s', q3, q4⟩ := zfr_ok (z := i.toInt % 16) q1 (show (2 : Int) ≤ i.toInt % 16 by omega) (show i.toInt % 16 ≤ 15 by omega)
        refine ⟨_, List.mem_cons_of_mem _ (List.mem_cons_of_mem _ (List.mem_cons_self ..)), s ++ s', by rw [← List.append_assoc]; exact q3, ⟨i, rfl, ?_⟩, rfl⟩
        have := zE_add (zE_scl 16 (zE_mono s' q2)) q4
        rw [show 16 * (i.toInt / 16) + i.toInt % 16 = i.toInt by omega, List.append_assoc] at this
        exact this
  · obtain ⟨i, rfl, h1⟩ := h
    split
    · rename_i hn
      obtain ⟨y, hy, rfl⟩ := hj
      rw [hn] at hy
      cases hy
      rw [cond_eq_ite]
      split
      · rename_i h48
        have h48 := zeq_iff.mp h48
        have e1 : Int.emod ix.1 69 = ix.1 % 69 := rfl
        rw [e1] at h48
        obtain ⟨g1, g2⟩ := h1 (by omega)
        obtain ⟨s, q1, q2⟩ := zfr_ok hE g1 g2
        exact ⟨_, List.mem_singleton_self _, s, q1, ⟨i, rfl, q2⟩, rfl⟩
      · obtain ⟨s, q1, q2⟩ := zai_ok hE i
        exact ⟨_, List.mem_singleton_self _, s, q1, ⟨i, rfl, q2⟩, rfl⟩
    · have hx := zX_app (x := i.toInt) hE.1
      refine ⟨_, List.mem_singleton_self _, [i.toInt], ⟨zB_app hE.1 (zI_b i).1 (zI_b i).2, zFa_mono _ hE.2.1, ?_⟩, ⟨i, rfl, hx⟩, rfl⟩
      intro q hq
      rcases List.mem_append.mp hq with g | g
      · exact zPd_mono _ hE.2.2 q g
      · rw [List.mem_singleton.mp g]
        refine ⟨j, i.toInt, zE_mono _ hj, ?_, h1⟩
        show (r ++ [i.toInt])[en.1.length]? = _
        rw [hE.1.1, List.getElem?_append_right (Nat.le_refl _), Nat.sub_self]
        rfl
  · rename_i k h0 h1 h2
    have := hp k rfl
    match k, this with
    | 0, _ => exact absurd rfl h0
    | 1, _ => exact absurd rfl h1
    | 2, _ => exact absurd rfl h2
theorem zfnd_ok : ∀ {l : List (zL × zV)}, zfnd ix l = some v → (ix, v) ∈ l
  | [], h => by cases h
  | (e, w) :: t, h => by
    simp only [zfnd, cond_eq_ite] at h
    split at h
    · rename_i q
      rw [zeqL_eq q, Option.some.inj h]
      exact List.mem_cons_self ..
    · exact List.mem_cons_of_mem _ (zfnd_ok h)
theorem zdel_sub : ∀ {l : List (zL × zV)} {q : zL × zV}, q ∈ zdel ix l → q ∈ l
  | [], q, h => by cases h
  | (e, w) :: t, q, h => by
    simp only [zdel, cond_eq_ite] at h
    split at h
    · exact List.mem_cons_of_mem _ (zdel_sub h)
    · rcases List.mem_cons.mp h with g | g
      · rw [g]; exact List.mem_cons_self ..
      · exact List.mem_cons_of_mem _ (zdel_sub g)
/-- a place told more exactly -/
theorem zKc_add {l : List (zL × zV)} (hK : zKc r c m) (hl : ∀ q ∈ l, q ∈ c.2.2.2) (hj : zE r ix j) (hx : zslot m j = some x) (hv : zQ r v j x) : zKc r (c.1, c.2.1, c.2.2.1, (ix, v) :: l) m := by
  obtain ⟨h1, h2, h3, h4⟩ := hK
  refine ⟨h1, h2, h3, fun q hq => ?_⟩
  rcases List.mem_cons.mp hq with g | g
  · rw [g]; exact ⟨j, x, hj, hx, hv⟩
  · exact h4 q (hl q g)
theorem zld_ok (hE : zEn en r) (hK : zKc r c m) (hj : zE r ix j) (hx : zslot m j = some x) (hne : zld en c ix ≠ []) : ∃ q ∈ zld en c ix, ∃ s, zEn q.2.2 (r ++ s) ∧ zKc (r ++ s) q.2.1 m ∧ zQ (r ++ s) q.1 j x ∧ znpt q.1 = true := by
  have hp : ∀ {p : zP}, zmat en p ix ≠ [] → ∀ k, p = .inr k → k < 3 := by
    intro p hp k e
    subst e
    rcases Nat.lt_or_ge k 3 with g | g
    · exact g
    · exfalso
      apply hp
      match k, g with
      | k + 3, _ => rfl
  unfold zld at hne ⊢
  split
  · rename_i p hf
    rw [hf] at hne
    obtain ⟨j', x', e1, e2, e3⟩ := hK.2.2.2 _ (zfnd_ok hf)
    have := zE_fun hj e1
    subst this
    rw [hx] at e2
    cases e2
    obtain ⟨q, hq, s, g1, g2, g3⟩ := zmat_ok hE e3 hj (hp (fun z => hne (by simp only [z, List.map_nil])))
    exact ⟨_, List.mem_map_of_mem hq, s, g1, zKc_add (zKc_mono s hK) (fun q hq => zdel_sub hq) (zE_mono s hj) hx g2, g2, g3⟩
  · rename_i w hw hf
    obtain ⟨j', x', e1, e2, e3⟩ := hK.2.2.2 _ (zfnd_ok hf)
    have := zE_fun hj e1
    subst this
    rw [hx] at e2
    cases e2
    refine ⟨_, List.mem_singleton_self _, [], by rw [List.append_nil]; exact hE, by rw [List.append_nil]; exact hK, by rw [List.append_nil]; exact znrv_ok hE.1 e3, ?_⟩
    match w, hw with
    | .inl e, _ => rfl
    | .inr (.inl k), _ => rfl
    | .inr (.inr (.inl e)), _ => rfl
    | .inr (.inr (.inr p)), hw => exact absurd rfl (hw p)
  · rename_i hf
    rw [hf] at hne
    obtain ⟨q, hq, s, g1, g2, g3⟩ := zmat_ok hE (hK.2.2.1 j x hx) hj (hp (fun z => hne (by simp only [z, List.map_nil])))
    exact ⟨_, List.mem_map_of_mem hq, s, g1, zKc_add (zKc_mono s hK) (fun q hq => hq) (zE_mono s hj) hx g2, g2, g3⟩
theorem zapt_ok {a b : zL} {X Y : Int} (hE : zEn en r) (h : zapt en a b = true) (ha : zE r a X) (hb : zE r b Y) : X ≠ Y := by
  unfold zapt at h
  split at h
  · rename_i hn
    obtain ⟨y, hy, he⟩ := zE_sub ha hb
    rw [hn] at hy
    cases hy
    intro q
    have : (zsub a b).1 = 0 := by omega
    rw [zeq_iff.mpr this] at h
    cases h
  · rw [Bool.or_eq_true] at h
    rcases h with h | h
    · have := zEn_pr hE h (zE_ac (zE_sub ha hb)); omega
    · have := zEn_pr hE h (zE_ac (zE_sub hb ha)); omega
theorem zkeep_ok : ∀ {l : List (zL × zV)} {q : zL × zV}, q ∈ zkeep en ix l → q ∈ l ∧ zapt en q.1 ix = true
  | [], q, h => by cases h
  | (e, w) :: t, q, h => by
    simp only [zkeep, cond_eq_ite] at h
    split at h
    · rename_i hz
      rcases List.mem_cons.mp h with g | g
      · rw [g]; exact ⟨List.mem_cons_self .., hz⟩
      · exact ⟨List.mem_cons_of_mem _ (zkeep_ok g).1, (zkeep_ok g).2⟩
    · exact ⟨List.mem_cons_of_mem _ (zkeep_ok h).1, (zkeep_ok h).2⟩
/-- a place written -/
theorem zsto_ok {m' : mC} (hE : zEn en r) (hK : zKc r c m) (hj : zE r ix j) (hn : zknd m' = zknd m) (hf : zwf m → zwf m') (hs : ∀ q : Int, zslot m' q = if q = j then some x else zslot m q) (hv : zQ r v j x) (hd : zD c.2.2.1 j x) : zKc r (zsto en c ix v) m' := by
  obtain ⟨h1, h2, h3, h4⟩ := hK
  refine ⟨hf h1, hn.trans h2, fun q y hq => ?_, fun q hq => ?_⟩
  · rw [hs] at hq
    split at hq
    · rename_i e; subst e; cases hq; exact hd
    · exact h3 q y hq
  · rcases List.mem_cons.mp hq with g | g
    · rw [g]; exact ⟨j, x, hj, by rw [hs, if_pos rfl], hv⟩
    · obtain ⟨g1, g2⟩ := zkeep_ok g
      obtain ⟨j', x', e1, e2, e3⟩ := h4 q g1
      exact ⟨j', x', e1, by rw [hs, if_neg (zapt_ok hE g2 e1 hj)]; exact e2, e3⟩
end ZQ
