/-! RUNS between cuts, and contracts out of them -/
abbrev zSr : Type := (Nat × Nat) ⊕ ((Nat × Nat) ⊕ (Nat × zL))
/-- a cut: the state, where its unknowns behind the rigid ones stand (a frame's local, a frame's stack, a cell's place), a measure -/
abbrev zCu : Type := zS × List zSr × zL
def zfrm? (v : Option zV) : Option zL := match v with
  | some (.inl e) => some e
  | some (.inr (.inr (.inl e))) => some e
  | _ => none
noncomputable def zsr1 (s : zS) : zSr → Option zL
  | .inl (f, k) => (match s.1[f]? with
    | some fr => zfrm? (zlk fr.2.2.1 k)
    | none => none)
  | .inr (.inl (f, i)) => (match s.1[f]? with
    | some fr => zfrm? fr.2.2.2[i]?
    | none => none)
  | .inr (.inr (k, ix)) => (match zget s.2.1 k with
    | some c => zfrm? (zfnd ix c.2.2.2)
    | none => none)
noncomputable def zsrs (s : zS) : List zSr → Option (List zL)
  | [] => some []
  | a :: t => match zsr1 s a, zsrs s t with
    | some e, some g => some (e :: g)
    | _, _ => none
def zlle (en : zN) (g : List zL) (l : List (Nat × zV)) : List (Nat × zV) → Bool
  | [] => true
  | (k, v) :: t => (match zlk l k, zsv g v with
    | some w, some u => zvle en w u (zK 0)
    | _, _ => false) && zlle en g l t
def zstl (en : zN) (g : List zL) : List zV → List zV → Bool
  | [], [] => true
  | w :: t, v :: u => (match zsv g v with
    | some x => znpt v && zvle en w x (zK 0)
    | none => false) && zstl en g t u
  | _, _ => false
def zfms (en : zN) (g : List zL) : List zF → List zF → Bool
  | [], [] => true
  | (m, pc, l, st) :: t, (m', pc', l', st') :: u => Nat.beq m m' && (Nat.beq pc pc' && (zlle en g l l' && (zstl en g st st' && zfms en g t u)))
  | _, _ => false
def zkey : List zF → List zF → Bool
  | [], [] => true
  | (m, pc, _) :: t, (m', pc', _) :: u => Nat.beq m m' && (Nat.beq pc pc' && zkey t u)
  | _, _ => false
noncomputable def zmtc (np : Nat) (mu : Option zL) (s : zS) (F : zCu) : Bool := match zsrs s F.2.1 with
  | some g' => zfms s.2.2 (znew 0 np ++ g') s.1 F.1.1 && (zble s.2.2 (znew 0 np ++ g') F.1.2.2.1 && (zfle s.2.2 (znew 0 np ++ g') F.1.2.2.2.1 && (ztle s.2.2 (znew 0 np ++ g') s.2.1 F.1.2.1 && (F.1.2.2.2.2.isEmpty && (match mu with
    | none => true
    | some m0 => (match zsb (znew 0 np ++ g') F.2.2 with
      | some e => zpr s.2.2.1 s.2.2.2.1 4 (zac (zsub e m0) 1)
      | none => false))))))
  | none => false
noncomputable def zstp? (np : Nat) (cuts : List zCu) (mu : Option zL) (s : zS) : Bool := cuts.any (fun F => zkey s.1 F.1.1 && zmtc np mu s F)
/-- the answer's post -/
noncomputable def zfpo (np : Nat) (bd : zBd) (t : zT) (en : zN) (v : Option zV) (p : zPo × List (Nat ⊕ (Nat × zL))) : Bool := match zsrc t v.toList p.2 with
  | some g' => zble en (znew 0 np ++ g') (bd ++ p.1.1) && (zfle en (znew 0 np ++ g') p.1.2.1 && (p.1.2.2.1.all (fun q => match zget t q.1 with
      | some c => zmle en (znew 0 np ++ g') c q.2
      | none => false) && (match p.1.2.2.2, v with
      | none, none => true
      | some q, some w => (match zsv (znew 0 np ++ g') q with
        | some u => zvle en w u (zK 0)
        | none => false)
      | _, _ => false)))
  | none => false
noncomputable def zdfc (t u : zT) : Bool := (zlvs u).all (fun q => Nat.beq q.1 0 || (match zget t (q.1 - 1) with
  | some c => zpeq c.2.2.1 q.2.2.2.1
  | none => false))
noncomputable def zfin (P : mP) (np : Nat) (bd : zBd) (pre : zT) (ps : List (zPo × List (Nat ⊕ (Nat × zL)))) (s : zS) : Bool := match s with
  | ([(m, pc, _, st)], t, en) => (match mi_at P m pc, st with
    | .return_, [] => ps.any (zfpo np bd t en none) && zdfc t pre
    | .ireturn, [.inl e] => zretz (P.get m).2.2.1 en (.inl e) && (ps.any (zfpo np bd t en (some (.inl e))) && zdfc t pre)
    | .lreturn, [.inr (.inr (.inl e))] => ps.any (zfpo np bd t en (some (.inr (.inr (.inl e))))) && zdfc t pre
    | .areturn, [.inr (.inl r)] => ps.any (zfpo np bd t en (some (.inr (.inl r)))) && zdfc t pre
    | _, _ => false)
  | _ => false
noncomputable def zrun (st : zS → Option (List zS)) (stop : zS → Bool) : Nat → List zS → Bool
  | 0, ss => (match ss with
    | [] => true
    | _ :: _ => false)
  | n + 1, ss => (match ss with
    | [] => true
    | s :: u => bif stop s then zrun st stop n u else (match st s with
      | some q => zrun st stop n (q ++ u)
      | none => false))
section ZR
variable {P : mP} {S : Nat × (Nat → Int32)} {D : Nat} {W : zW} {J : mH → Prop} {r0 : List Int} {Q : Option Value → mH → Prop} {Ls : Bool} {nf fk : List (Nat × Nat)} {cal : zCl} {en : zN} {g : List zL} {r rc : List Int}
theorem zrun_ok {stop : zS → Bool} (hLs : zLs Ls S r0) (hJ : ∀ h h', J h → zsm W h h' → J h') (hcal : zClO P S J cal) (hstop : ∀ s, stop s = true → zG P S D J r0 Q s) : ∀ (n : Nat) (ss : List zS), zrun (zstep P D W Ls nf fk cal) stop n ss = true → ∀ s ∈ ss, zG P S D J r0 Q s
  | 0, [], _, s, hs => by cases hs
  | 0, _ :: _, h, _, _ => by cases h
  | n + 1, [], _, s, hs => by cases hs
  | n + 1, a :: u, h, s, hs => by
    simp only [zrun, cond_eq_ite] at h
    split at h
    · rename_i hst
      rcases List.mem_cons.mp hs with q | q
      · rw [q]; exact hstop a hst
      · exact zrun_ok hLs hJ hcal hstop n u h s q
    · split at h
      · rename_i q hq
        have ih := zrun_ok hLs hJ hcal hstop n (q ++ u) h
        rcases List.mem_cons.mp hs with z | z
        · rw [z]; exact zstep_ok hLs hJ hcal hq (fun s' hs' => ih s' (List.mem_append_left _ hs'))
        · exact ih s (List.mem_append_right _ z)
      · cases h
theorem zlle_ok {l : List (Nat × zV)} {l0 : List (Nat × Value)} (hE : zEn en r) (hg : zGr g r rc) (hl : zLo r l l0) : ∀ {l' : List (Nat × zV)}, zlle en g l l' = true → zLo rc l' l0
  | [], _, q, hq => by cases hq
  | (k, v) :: t, h, q, hq => by
    simp only [zlle, Bool.and_eq_true] at h
    rcases List.mem_cons.mp hq with z | z
    · rw [z]
      have h := h.1
      split at h
      · rename_i w u h1 h2
        obtain ⟨x, e1, e2⟩ := zLo_get hl h1
        exact ⟨x, e1, zvle_to hE hg h2 h e2 zE_K⟩
      · cases h
    · exact zlle_ok hE hg hl h.2 q z
theorem zstl_ok (hE : zEn en r) (hg : zGr g r rc) : ∀ {a b : List zV} {st : List Value}, zstl en g a b = true → zSt r a st → zSt rc b st
  | [], [], st, _, h => h
  | [], _ :: _, st, h, _ => by cases h
  | _ :: _, [], st, h, _ => by cases h
  | w :: t, v :: u, st, h, hs => by
    simp only [zstl, Bool.and_eq_true] at h
    obtain ⟨x, st', rfl, h1, h2⟩ := zSt_c hs
    have h3 := h.1
    split at h3
    · rename_i y hy
      rw [Bool.and_eq_true] at h3
      exact ⟨x, st', rfl, ⟨h3.1, zvle_to hE hg hy h3.2 h1.2 zE_K⟩, zstl_ok hE hg h.2 h2⟩
    · cases h3
theorem zfms_ok (hE : zEn en r) (hg : zGr g r rc) : ∀ {a b : List zF} {fs : List (Nat × mF)}, zfms en g a b = true → zFs r a fs → zFs rc b fs
  | [], [], fs, _, h => h
  | [], _ :: _, fs, h, _ => by cases h
  | _ :: _, [], fs, h, _ => by cases h
  | (m, pc, l, st) :: t, (m', pc', l', st') :: u, fs, h, hs => by
    simp only [zfms, Bool.and_eq_true] at h
    obtain ⟨h1, h2, h3, h4, h5⟩ := h
    obtain ⟨l0, st0, fs', rfl, g1, g2, g3⟩ := hs
    rw [Nat.eq_of_beq_eq_true h1, Nat.eq_of_beq_eq_true h2]
    exact ⟨l0, st0, fs', rfl, zlle_ok hE hg g1 h3, zstl_ok hE hg h4 g2, zfms_ok hE hg h5 g3⟩
/-- the rigid unknowns stay what they are -/
theorem zids_ok {r1 : List Int} {g' : List zL} (hg : zGr (znew 0 r0.length ++ g') (r0 ++ r1) rc) : ∃ r1', rc = r0 ++ r1' := by
  refine ⟨rc.drop r0.length, ?_⟩
  have hlen := hg.1
  rw [List.length_append, znew_len] at hlen
  have ht : rc.take r0.length = r0 := by
    apply List.ext_getElem?
    intro k
    rcases Nat.lt_or_ge k r0.length with hl | hl
    · rw [List.getElem?_take_of_lt hl]
      have hk : (znew 0 r0.length ++ g')[k]? = some (zX k) := by
        rw [List.getElem?_append_left (by rw [znew_len]; exact hl)]
        have hk' : (znew 0 r0.length)[k]? = some ((znew 0 r0.length)[k]'(by rw [znew_len]; exact hl)) := List.getElem?_eq_getElem _
        have := znew_get hk'
        rw [Nat.zero_add] at this
        rw [hk', this]
      obtain ⟨x, e1, e2⟩ := hg.2 k _ hk
      obtain ⟨y, hy⟩ : ∃ y, r0[k]? = some y := ⟨r0[k], List.getElem?_eq_getElem hl⟩
      have e3 : zE (r0 ++ r1) (zX k) y := zE_mono r1 (zE_X hy)
      rw [e1, zE_fun e2 e3, hy]
    · rw [List.getElem?_eq_none (by rw [List.length_take]; omega), List.getElem?_eq_none hl]
  have := List.take_append_drop r0.length rc
  rw [ht] at this
  exact this.symm
theorem zmtc_ok {s : zS} {F : zCu} {mu : Option zL} {r1 : List Int} {fs : List (Nat × mF)} {h : mH} (hm : zmtc r0.length mu s F = true) (hR : zRS J (r0 ++ r1) s fs h) : ∃ r1', zRS J (r0 ++ r1') F.1 fs h ∧ ∀ m0 x, mu = some m0 → zE (r0 ++ r1) m0 x → ∃ y, zE (r0 ++ r1') F.2.2 y ∧ y < x := by
  obtain ⟨hf, hH, hE, hs⟩ := hR
  unfold zmtc at hm
  split at hm
  · rename_i g' hsrc
    simp only [Bool.and_eq_true] at hm
    obtain ⟨m1, m2, m3, m4, m5, m6⟩ := hm
    obtain ⟨rc, hg, hB⟩ := zble_ok hE m2
    obtain ⟨r1', rfl⟩ := zids_ok hg
    refine ⟨r1', ⟨zfms_ok hE hg m1 hf, ztle_ok hE hg m4 hH, ⟨hB, zfle_ok hE hg m3, ?_⟩, hs⟩, ?_⟩
    · rw [List.isEmpty_iff.mp m5]
      intro q hq
      cases hq
    · intro m0 x e hx
      subst e
      simp only at m6
      split at m6
      · rename_i e he
        obtain ⟨y, h1, h2⟩ := zsb_ok hg he
        have := zEn_pr hE m6 (zE_ac (zE_sub h2 hx))
        exact ⟨y, h1, by omega⟩
      · cases m6
  · cases hm
theorem zfpo_ok {np : Nat} {bd : zBd} {t : zT} {v : Option zV} {p : zPo × List (Nat ⊕ (Nat × zL))} {r1 : List Int} {h : mH} {x : Option Value} (hE : zEn en (r0 ++ r1)) (hH : zHp (r0 ++ r1) t h) (hx : zRo (r0 ++ r1) v x) (hp : zfpo r0.length bd t en v p = true) : ∃ s, zB (bd ++ p.1.1) (r0 ++ s) ∧ zFa p.1.2.1 (r0 ++ s) ∧ zPw (r0 ++ s) p.1.2.2.1 h ∧ zRt (r0 ++ s) p.1.2.2.2 x := by
  unfold zfpo at hp
  split at hp
  · rename_i g' hsrc
    simp only [Bool.and_eq_true] at hp
    obtain ⟨m1, m2, m3, m4⟩ := hp
    obtain ⟨rc, hg, hB⟩ := zble_ok hE m1
    obtain ⟨s, rfl⟩ := zids_ok hg
    refine ⟨s, hB, zfle_ok hE hg m2, ?_, ?_⟩
    · intro q hq
      have := List.all_eq_true.mp m3 q hq
      split at this
      · rename_i c hc
        obtain ⟨m, e1, hK⟩ := hH q.1 c hc
        exact ⟨m, e1, zmle_ok hE hg hK this⟩
      · cases this
    · split at m4
      · rename_i e1; rw [e1]; exact hx
      · rename_i q w e1
        rw [e1]
        obtain ⟨y, rfl, hy⟩ := hx
        split at m4
        · rename_i u hu
          exact ⟨y, rfl, zvle_to hE hg hu m4 hy.2 zE_K⟩
        · cases m4
      · cases m4
  · cases hp
theorem zdfc_ok {t u : zT} {h : mH} (hd : zdfc t u = true) (hH : zHp r t h) : zDf u h := by
  intro k d hk
  have hm := zlvs_mem u k
  unfold zget at hk
  rw [cond_eq_ite] at hk
  split at hk
  · rename_i hb
    have hb := Nat.eq_of_beq_eq_true hb
    have hq := List.all_eq_true.mp hd _ hm
    rw [hb, Bool.or_eq_true, Nat.add_sub_cancel] at hq
    cases hk
    rcases hq with hq | hq
    · cases hq
    · cases hc : zget t k with
      | none => rw [hc] at hq; cases hq
      | some c =>
        rw [hc] at hq
        obtain ⟨m, e1, hK⟩ := hH k c hc
        exact ⟨m, e1, by rw [← zpeq_eq hq]; exact hK.2.2.1⟩
  · cases hk
theorem zfin_ok {W0 : zW} {h0 : mH} {Om : mH → Prop} (hJs : ∀ h, J h → zsm W0 h0 h ∧ Om h) {bd : zBd} {pre : zT} {ps : List (zPo × List (Nat ⊕ (Nat × zL)))} {s : zS} {r1 : List Int} {fs : List (Nat × mF)} {h : mH} (hf : zfin P r0.length bd pre ps s = true) (hR : zRS J (r0 ++ r1) s fs h) : zKK P S D (fun x h' => zQo bd W0 pre (ps.map (fun p => p.1)) r0 h0 x h' ∧ Om h') fs h := by
  have core : ∀ {t : zT} {en : zN} {v : Option zV} {x : Option Value}, zHp (r0 ++ r1) t h → zEn en (r0 ++ r1) → zRo (r0 ++ r1) v x → ps.any (zfpo r0.length bd t en v) = true → zdfc t pre = true → zQo bd W0 pre (ps.map (fun p => p.1)) r0 h0 x h ∧ Om h := by
    intro t en v x hH hE hx ha hd
    obtain ⟨p, hp, hq⟩ := List.any_eq_true.mp ha
    obtain ⟨s', g1, g2, g3, g4⟩ := zfpo_ok (np := 0) hE hH hx hq
    exact ⟨⟨(hJs h hR.2.2.2).1, zdfc_ok hd hH, p.1, List.mem_map_of_mem hp, s', g1, g2, g3, g4⟩, (hJs h hR.2.2.2).2⟩
  unfold zfin at hf
  split at hf
  · rename_i m pc l st t en
    obtain ⟨⟨l0, st0, fs', rfl, hl, hst, hfr⟩, hH, hE, hs⟩ := hR
    have hfr : fs' = [] := hfr
    subst hfr
    show mi_T P S (D - 0) m (pc, l0, st0) h (zKs P S D _ [])
    split at hf
    · rename_i hi
      rw [Bool.and_eq_true] at hf
      have hst : st0 = [] := hst
      subst hst
      exact mi_T_re rfl hi (core (v := none) hH hE rfl hf.1 hf.2)
    · rename_i e hi
      simp only [Bool.and_eq_true] at hf
      obtain ⟨x, s', rfl, g1, g2⟩ := zSt_c hst
      have g2 : s' = [] := g2
      subst g2
      obtain ⟨i, rfl, hz⟩ := zretz_ok hE hf.1 g1
      exact mi_T_ri rfl hi hz (core (v := some (.inl e)) hH hE ⟨_, rfl, g1⟩ hf.2.1 hf.2.2)
    · rename_i e hi
      rw [Bool.and_eq_true] at hf
      obtain ⟨x, s', rfl, g1, g2⟩ := zSt_c hst
      have g2 : s' = [] := g2
      subst g2
      obtain ⟨i, rfl, -⟩ := zR_lng g1
      exact mi_T_rl rfl hi (core (v := some (.inr (.inr (.inl e)))) hH hE ⟨_, rfl, g1⟩ hf.1 hf.2)
    · rename_i e hi
      rw [Bool.and_eq_true] at hf
      obtain ⟨x, s', rfl, g1, g2⟩ := zSt_c hst
      have g2 : s' = [] := g2
      subst g2
      have := zR_ref g1
      subst this
      exact mi_T_ra rfl hi (core (v := some (.inr (.inl e))) hH hE ⟨_, rfl, g1⟩ hf.1 hf.2)
    · cases hf
  · cases hf
/-- the cuts: from each all roads come to a cut with a lesser measure, or end well -/
noncomputable def zck (P : mP) (D : Nat) (W : zW) (Ls : Bool) (nf fk : List (Nat × Nat)) (cal : zCl) (np : Nat) (bd : zBd) (pre : zT) (ps : List (zPo × List (Nat ⊕ (Nat × zL)))) (cuts : List zCu) (fuel : Nat) (F : zCu) : Bool := ((zub F.1.2.2.1 F.2.2).isSome && zpr F.1.2.2.1 F.1.2.2.2.1 1 (zneg F.2.2)) && (match zstep P D W Ls nf fk cal F.1 with
  | some q => zrun (zstep P D W Ls nf fk cal) (fun s => zstp? np cuts (some F.2.2) s || zfin P np bd pre ps s) fuel q
  | none => false)
theorem zcuts_ok {W0 : zW} {h0 : mH} {Om : mH → Prop} (hJs : ∀ h, J h → zsm W0 h0 h ∧ Om h) {bd : zBd} {pre : zT} {ps : List (zPo × List (Nat ⊕ (Nat × zL)))} {cuts : List zCu} {fuel : Nat} (hLs : zLs Ls S r0) (hJ : ∀ h h', J h → zsm W h h' → J h') (hcal : zClO P S J cal) (hck : ∀ F ∈ cuts, zck P D W Ls nf fk cal r0.length bd pre ps cuts fuel F = true) :
    ∀ (N : Nat) (F : zCu), F ∈ cuts → ∀ r1 fs h x, zRS J (r0 ++ r1) F.1 fs h → zE (r0 ++ r1) F.2.2 x → x < N → zKK P S D (fun x h' => zQo bd W0 pre (ps.map (fun p => p.1)) r0 h0 x h' ∧ Om h') fs h := by
  intro N
  induction N with
  | zero =>
    intro F hF r1 fs h x hR hx hlt
    have := hck F hF
    unfold zck at this
    rw [Bool.and_eq_true] at this
    have h1 := this.1
    rw [Bool.and_eq_true] at h1
    have := zEn_pr hR.2.2.1 h1.2 (zE_neg hx)
    omega
  | succ N ih =>
    intro F hF r1 fs h x hR hx hlt
    have hc := hck F hF
    unfold zck at hc
    rw [Bool.and_eq_true] at hc
    have hc := hc.2
    split at hc
    · rename_i q hq
      -- all unknowns of the cut are rigid on these roads
      have hLs' : zLs Ls S (r0 ++ r1) := by
        intro hL
        obtain ⟨e1, e2⟩ := hLs hL
        refine ⟨?_, e2⟩
        rw [List.getElem?_append_left (List.getElem?_eq_some_iff.mp e1).1]
        exact e1
      have hstop : ∀ s, (zstp? r0.length cuts (some F.2.2) s || zfin P r0.length bd pre ps s) = true → zG P S D J (r0 ++ r1) (fun x h' => zQo bd W0 pre (ps.map (fun p => p.1)) r0 h0 x h' ∧ Om h') s := by
        intro s hs r2 fs2 h2 hR2
        rw [List.append_assoc] at hR2
        rw [Bool.or_eq_true] at hs
        rcases hs with hs | hs
        · obtain ⟨F', hF', hm⟩ := List.any_eq_true.mp hs
          rw [Bool.and_eq_true] at hm
          obtain ⟨r1', hR', hmu⟩ := zmtc_ok hm.2 hR2
          obtain ⟨y, hy, hyx⟩ := hmu F.2.2 x rfl (by rw [← List.append_assoc]; exact zE_mono r2 hx)
          exact ih F' hF' r1' fs2 h2 y hR' hy (by omega)
        · exact zfin_ok hJs hs hR2
      have := zstep_ok hLs' hJ hcal hq (zrun_ok hLs' hJ hcal hstop fuel q hc)
      exact this [] fs h (by rw [List.append_nil]; exact hR)
    · cases hc
/-- the start -/
def zmta (en : zN) : List zV → Option (List zV × zN)
  | [] => some ([], en)
  | .inr (.inr (.inr p)) :: t => bif zkp p then (match zmat en p (zK 0) with
      | [q] => (match zmta q.2 t with
        | some (vs, e) => some (q.1 :: vs, e)
        | none => none)
      | _ => none) else none
  | v :: t => match zmta en t with
    | some (vs, e) => some (v :: vs, e)
    | none => none
theorem zmta_ok : ∀ {as : List zV} {en : zN} {r : List Int} {xs : List Value} {vs : List zV} {e : zN}, zmta en as = some (vs, e) → zEn en r → zAr r as xs → ∃ s, zEn e (r ++ s) ∧ zSt (r ++ s) vs xs
  | [], en, r, xs, vs, e, h, hE, hx => by
    cases h
    exact ⟨[], by rw [List.append_nil]; exact hE, hx⟩
  | v :: t, en, r, xs, vs, e, h, hE, hx => by
    obtain ⟨x, xs', rfl, h1, h2⟩ := hx
    have rest : ∀ {en' : zN} {s : List Int} {vs' : List zV} {v' : zV}, zEn en' (r ++ s) → zR (r ++ s) v' x → zmta en' t = some (vs', e) → vs = v' :: vs' → ∃ s, zEn e (r ++ s) ∧ zSt (r ++ s) vs (x :: xs') := by
      intro en' s vs' v' hE' hv' hm hvs
      have hA : zAr (r ++ s) t xs' := by
        have : ∀ {as : List zV} {xs : List Value}, zAr r as xs → zAr (r ++ s) as xs := by
          intro as
          induction as with
          | nil => intro xs h; exact h
          | cons a as ih => intro xs ⟨x, xs', e, g1, g2⟩; exact ⟨x, xs', e, zQ_mono s g1, ih g2⟩
        exact this h2
      obtain ⟨s2, g1, g2⟩ := zmta_ok hm hE' hA
      rw [hvs]
      exact ⟨s ++ s2, by rw [← List.append_assoc]; exact g1, by rw [← List.append_assoc]; exact zSt_k (zR_mono s2 hv') g2⟩
    match v, h, h1 with
    | .inr (.inr (.inr p)), h, h1 =>
      simp only [zmta, cond_eq_ite] at h
      split at h
      · rename_i hk
        split at h
        · rename_i q hq
          split at h
          · rename_i vs' e' hm
            cases h
            obtain ⟨w, hw, s, f1, f2, f3⟩ := zmat_ok hE h1 (zE_K (c := 0)) (fun k e => by subst e; exact e_blt.mp hk)
            rw [hq] at hw
            have := List.mem_singleton.mp hw
            subst this
            exact rest f1 ⟨f3, f2⟩ hm rfl
          · cases h
        · cases h
      · cases h
    | .inl a, h, h1 =>
      simp only [zmta] at h
      split at h
      · rename_i vs' e' hm
        cases h
        exact rest (s := []) (by rw [List.append_nil]; exact hE) ⟨rfl, by rw [List.append_nil]; exact h1⟩ hm rfl
      · cases h
    | .inr (.inl a), h, h1 =>
      simp only [zmta] at h
      split at h
      · rename_i vs' e' hm
        cases h
        exact rest (s := []) (by rw [List.append_nil]; exact hE) ⟨rfl, by rw [List.append_nil]; exact h1⟩ hm rfl
      · cases h
    | .inr (.inr (.inl a)), h, h1 =>
      simp only [zmta] at h
      split at h
      · rename_i vs' e' hm
        cases h
        exact rest (s := []) (by rw [List.append_nil]; exact hE) ⟨rfl, by rw [List.append_nil]; exact h1⟩ hm rfl
      · cases h
noncomputable def zst0 (P : mP) (W : zW) (nf fk : List (Nat × Nat)) (cal : zCl) (ct : zCt) (ps : List (zPo × List (Nat ⊕ (Nat × zL)))) (cuts : List zCu) (fuel : Nat) : Bool := match zmta (ct.2.2.2.1, ct.2.2.2.2.1, []) ct.2.2.1 with
  | some (vs, en) => zrun (zstep P ct.2.1 W false nf fk cal) (fun s => zstp? ct.2.2.2.1.length cuts none s || zfin P ct.2.2.2.1.length ct.2.2.2.1 ct.2.2.2.2.2.1 ps s) fuel [([(ct.1, 0, zent 0 vs, [])], ct.2.2.2.2.2.1, en)]
  | none => false
theorem mi_run_d : ∀ (n d d' m : Nat) (f : mF) (h : mH) (x : Option Value × mH), d ≤ d' → mi_run P S n d m f h = some x → mi_run P S n d' m f h = some x := by
  intro n
  induction n with
  | zero => intro d d' m f h x _ hr; rw [mi_run] at hr; cases hr
  | succ n ih =>
    intro d d' m f h x hle hr
    obtain ⟨r, h'⟩ := x
    rcases mi_runC hr with ⟨rfl, hend, hst⟩ | ⟨y, d1, as, rest, r1, h1, hlt, hi, rfl, ha, hs8, hsum, hrc, e1, e2⟩ | ⟨f1, h1, hlt, e1, n1, n2, n3, n4, n5, e2⟩
    · rw [mi_run]
      rcases hend.2 with ⟨q, rfl⟩ | ⟨v, q, rfl, qz⟩ | ⟨v, q, rfl⟩ | ⟨v, q, rfl⟩
      · rw [q]; simp only [hst, Option.toList]
      · rw [q]; simp only [hst, Option.toList, qz, if_true]
      · rw [q]; simp only [hst, Option.toList]
      · rw [q]; simp only [hst, Option.toList]
    · obtain ⟨d2, rfl⟩ : ∃ d2, d' = d2 + 1 := ⟨d' - 1, by omega⟩
      exact mi_run_ca hi ha hs8 hsum hrc (ih _ _ _ _ _ _ (by omega) e1) (ih _ _ _ _ _ _ hle e2)
    · exact mi_run_st e1 (ih _ _ _ _ _ _ hle e2)
theorem mi_T_d {d d' m : Nat} {f : mF} {h : mH} (hd : d ≤ d') (k : mi_T P S d m f h Q) : mi_T P S d' m f h Q := by
  obtain ⟨n, r, h', hr, q⟩ := k
  exact ⟨n, r, h', mi_run_d _ _ _ _ _ _ _ hd hr, q⟩
/-- A CONTRACT, by its cuts; Om: what is so of the cells at every moment -/
theorem zCtr_of {Om : mH → Prop} {ct : zCt} {ps : List (zPo × List (Nat ⊕ (Nat × zL)))} {cuts : List zCu} {cts : List zCt} {nf fk : List (Nat × Nat)} {fuel : Nat} (hOm : ∀ h h', Om h → zsm ct.2.2.2.2.2.2.1 h h' → Om h') (hps : ct.2.2.2.2.2.2.2.2 = ps.map (fun p => p.1)) (hc : ∀ c ∈ cts, zCtr P S Om c) (hw : zwin ct.2.2.2.2.2.2.1 ct.2.2.2.2.2.1 = true)
    (h0 : zst0 P ct.2.2.2.2.2.2.1 nf fk (fun d y as t en => zcal ct.2.2.2.2.2.2.1 d y as t en cts) ct ps cuts fuel = true)
    (hk : cuts.all (zck P ct.2.1 ct.2.2.2.2.2.2.1 false nf fk (fun d y as t en => zcal ct.2.2.2.2.2.2.1 d y as t en cts) ct.2.2.2.1.length ct.2.2.2.1 ct.2.2.2.2.2.1 ps cuts fuel) = true) : zCtr P S Om ct := by
  refine ⟨hw, fun D hD r as h hO hB hF hA hH => mi_T_d hD ?_⟩
  have hJ : ∀ h1 h2, (zsm ct.2.2.2.2.2.2.1 h h1 ∧ Om h1) → zsm ct.2.2.2.2.2.2.1 h1 h2 → (zsm ct.2.2.2.2.2.2.1 h h2 ∧ Om h2) := fun h1 h2 q z => ⟨zsm_tr q.1 z (fun _ _ z => z), hOm _ _ q.2 z⟩
  have hcal := zcal_ok (W := ct.2.2.2.2.2.2.1) (J := fun h' => zsm ct.2.2.2.2.2.2.1 h h' ∧ Om h') (fun h1 q => q.2) (fun h1 h2 q z _ => hJ h1 h2 q z) hc
  have hLs : zLs false S r := fun q => by cases q
  have hJs : ∀ h1, (zsm ct.2.2.2.2.2.2.1 h h1 ∧ Om h1) → zsm ct.2.2.2.2.2.2.1 h h1 ∧ Om h1 := fun h1 q => q
  have hcut := zcuts_ok (W := ct.2.2.2.2.2.2.1) (D := ct.2.1) (r0 := r) hJs (bd := ct.2.2.2.1) (pre := ct.2.2.2.2.2.1) (ps := ps) (cuts := cuts) (fuel := fuel) (nf := nf) (fk := fk) hLs hJ hcal (by
    intro F hF
    have := List.all_eq_true.mp hk F hF
    rw [hB.1] at this
    exact this)
  rw [hps]
  unfold zst0 at h0
  split at h0
  · rename_i vs en hm
    obtain ⟨s, hE, hS⟩ := zmta_ok hm ⟨hB, hF, fun q hq => by cases hq⟩ hA
    have hstop : ∀ x, (zstp? ct.2.2.2.1.length cuts none x || zfin P ct.2.2.2.1.length ct.2.2.2.1 ct.2.2.2.2.2.1 ps x) = true → zG P S ct.2.1 (fun h' => zsm ct.2.2.2.2.2.2.1 h h' ∧ Om h') r (fun x h' => zQo ct.2.2.2.1 ct.2.2.2.2.2.2.1 ct.2.2.2.2.2.1 (ps.map (fun p => p.1)) r h x h' ∧ Om h') x := by
      intro x hx r2 fs2 h2 hR2
      rw [Bool.or_eq_true, hB.1] at hx
      rcases hx with hx | hx
      · obtain ⟨F', hF', hm⟩ := List.any_eq_true.mp hx
        rw [Bool.and_eq_true] at hm
        obtain ⟨r1', hR', -⟩ := zmtc_ok hm.2 hR2
        have hck := List.all_eq_true.mp hk F' hF'
        unfold zck at hck
        rw [Bool.and_eq_true] at hck
        have hmu : ∃ y, zE (r ++ r1') F'.2.2 y := by
          have h1 := hck.1
          rw [Bool.and_eq_true] at h1
          obtain ⟨u, hu⟩ := Option.isSome_iff_exists.mp h1.1
          obtain ⟨y, hy, -⟩ := zub_ok hR'.2.2.1.1 hu
          exact ⟨y, hy⟩
        obtain ⟨y, hy⟩ := hmu
        exact hcut (y.toNat + 1) F' hF' r1' fs2 h2 y hR' hy (by omega)
      · exact zfin_ok hJs hx hR2
    have := zrun_ok hLs hJ hcal hstop fuel _ h0 _ (List.mem_singleton_self _) s [(ct.1, (0, mi_ent 0 as, []))] h ⟨⟨_, _, [], rfl, zent_ok 0 hS, rfl, rfl⟩, zHp_mono s hH, hE, zsm_rf, hO⟩
    exact this
  · cases h0
/-- what holds whatever else is so -/
def zTt : mH → Prop := fun _ => True
theorem zCtr_up {Om : mH → Prop} {ct : zCt} (hOm : ∀ h h', Om h → zsm ct.2.2.2.2.2.2.1 h h' → Om h') (h : zCtr P S zTt ct) : zCtr P S Om ct :=
  ⟨h.1, fun D hD r as hh hO hB hF hA hH => mi_T_mono (h.2 D hD r as hh trivial hB hF hA hH) (fun x h' q => ⟨q.1, hOm _ _ hO q.1.1⟩)⟩
end ZR
