/-! BY HAND: what a run ends in is one thing; what a place holds; runs between states that are told; a call with more said of what is behind it -/
section ZX
variable {P : mP} {S : Nat × (Nat → Int32)} {D : Nat} {W : zW} {J : mH → Prop} {r rc : List Int} {Q Q' : Option Value → mH → Prop} {nf fk : List (Nat × Nat)} {cal : zCl} {en : zN} {t : zT} {h h' : mH}
theorem mi_T_and {d m : Nat} {f : mF} (a : mi_T P S d m f h Q) (b : mi_T P S d m f h Q') : mi_T P S d m f h (fun x h' => Q x h' ∧ Q' x h') := by
  obtain ⟨n, x, h1, e1, q1⟩ := a
  obtain ⟨n', x', h2, e2, q2⟩ := b
  have e1 := mi_run_le n (max n n') d m f h _ (Nat.le_max_left _ _) e1
  have e2 := mi_run_le n' (max n n') d m f h _ (Nat.le_max_right _ _) e2
  have e3 := e1
  rw [e2] at e3
  cases e3
  exact ⟨_, _, _, e1, q1, q2⟩
theorem mi_T_all {d m : Nat} {f : mF} {Qi : Int → Option Value → mH → Prop} (a : mi_T P S d m f h Q) (b : ∀ i, mi_T P S d m f h (Qi i)) : mi_T P S d m f h (fun x h' => Q x h' ∧ ∀ i, Qi i x h') := by
  obtain ⟨n, x, h1, e1, q1⟩ := a
  refine ⟨n, x, h1, e1, q1, fun i => ?_⟩
  obtain ⟨n', x', h2, e2, q2⟩ := b i
  have e1 := mi_run_le n (max n n') d m f h _ (Nat.le_max_left _ _) e1
  have e2 := mi_run_le n' (max n n') d m f h _ (Nat.le_max_right _ _) e2
  rw [e2] at e1
  cases e1
  exact q2
/-- the int at a place -/
def zI (h : mH) (k : Nat) (j : Int) : Int := match mi_c h k with
  | some m => (match zslot m j with
    | some (.int i) => i.toInt
    | _ => 0)
  | none => 0
theorem zI_at {k : Nat} {m : mC} {j : Int} {i : Int32} (h1 : mi_c h k = some m) (h2 : zslot m j = some (.int i)) : zI h k j = i.toInt := by
  simp only [zI, h1, h2]
noncomputable def zchk (t : zT) (k : Nat) (e d : zL) : Bool := match zget t k with
  | some c => (match zfnd e c.2.2.2 with
    | some (.inl d') => zeqL d' d
    | _ => false)
  | none => false
theorem zI_ck {k : Nat} {e d : zL} {j x : Int} (hH : zHp r t h) (hk : zchk t k e d = true) (he : zE r e j) (hd : zE r d x) : zI h k j = x := by
  unfold zchk at hk
  split at hk
  · rename_i c hc
    split at hk
    · rename_i d' hq
      have hk := zeqL_eq hk
      subst hk
      obtain ⟨m, h1, hK⟩ := hH k c hc
      obtain ⟨j', v, f1, f2, i, rfl, f3⟩ := hK.2.2.2 _ (zfnd_ok hq)
      rw [zE_fun he f1, zI_at h1 f2]
      exact zE_fun f3 hd
    · cases hk
  · cases hk
/-- bounds of a place: its own, or those of all places of its row -/
noncomputable def zchb (t : zT) (k : Nat) (e : zL) (lo hi : Int) : Bool := match zget t k with
  | some c => (match zfnd e c.2.2.2 with
    | some (.inr (.inr (.inr (.inl (a, b))))) => zle lo a && zle b hi
    | none => (match c.2.2.1 with
      | .inl (a, b) => Nat.blt c.1 3 && (zle lo a && zle b hi)
      | _ => false)
    | _ => false)
  | none => false
noncomputable def zlen (t : zT) (k : Nat) : Nat := match zget t k with
  | some c => c.2.1
  | none => 0
theorem zI_cb {k : Nat} {e : zL} {j lo hi : Int} (hH : zHp r t h) (hk : zchb t k e lo hi = true) (he : zE r e j) (h0 : 0 ≤ j) (h1 : j < zlen t k) : lo ≤ zI h k j ∧ zI h k j ≤ hi := by
  unfold zchb at hk
  split at hk
  · rename_i c hc
    obtain ⟨m, e1, hK⟩ := hH k c hc
    split at hk
    · rename_i a b hq
      simp only [Bool.and_eq_true, zle_iff] at hk
      obtain ⟨j', v, f1, f2, i, rfl, f3, f4⟩ := hK.2.2.2 _ (zfnd_ok hq)
      rw [zE_fun he f1, zI_at e1 f2]
      exact ⟨by omega, by omega⟩
    · split at hk
      · rename_i a b hd
        simp only [Bool.and_eq_true, zle_iff] at hk
        obtain ⟨hk0, hk1, hk2⟩ := hk
        have hk0 := e_blt.mp hk0
        obtain ⟨g, rfl⟩ := zK_ints hK hk0
        have hl : zlen t k = c.2.1 := by unfold zlen; rw [hc]
        have hs : zslot (.inl (c.1, c.2.1, .inl g)) j = some (.int (g j.toNat)) := by
          simp only [zslot]
          rw [if_pos ⟨h0, by omega⟩]
        have hD := hK.2.2.1 j _ hs
        rw [hd] at hD
        obtain ⟨i, hi, g1, g2⟩ := hD
        cases hi
        rw [zI_at e1 hs]
        exact ⟨by omega, by omega⟩
      · cases hk
    · cases hk
  · cases hk
theorem mi_c_none {k : Nat} (hl : h'.length = h.length) (hn : mi_c h k = none) : mi_c h' k = none := by
  unfold mi_c at hn ⊢
  split
  · rename_i hk
    rw [if_pos hk, List.getElem?_eq_none_iff] at hn
    rw [List.getElem?_eq_none_iff, hl]
    exact hn
  · rfl
theorem zI_sm {k : Nat} (hs : zsm W h h') (hw : zjs W k = []) (j : Int) : zI h' k j = zI h k j := by
  cases hm : mi_c h k with
  | none => simp only [zI, hm, mi_c_none hs.1 hm]
  | some m0 =>
    obtain ⟨m, e1, -, -, -, e5⟩ := hs.2 k m0 hm
    have : zslot m j = zslot m0 j := by
      rcases Int.lt_or_le j 0 with q | q
      · cases a : zslot m j with
        | some v => have := zslot_neg a; omega
        | none =>
          cases b : zslot m0 j with
          | some v => have := zslot_neg b; omega
          | none => rfl
      · have := e5 j.toNat (zjs_no hw _)
        rw [show ((j.toNat : Nat) : Int) = j by omega] at this
        exact this
    simp only [zI, hm, e1, this]
def zobj (h : mH) (k : Nat) : Prop := ∃ m, mi_c h k = some m ∧ zia m = false
theorem zobj_sm {k : Nat} (hs : zsm W h h') (ho : zobj h k) : zobj h' k := by
  obtain ⟨m, e1, e2⟩ := ho
  obtain ⟨m', f1, -, f3, -⟩ := hs.2 k m e1
  exact ⟨m', f1, by rw [f3]; exact e2⟩
theorem zI_smf {k j : Nat} (hs : zsm W h h') (ho : zobj h k) (hw : zw W k j = false) : zI h' k j = zI h k j := by
  obtain ⟨m0, hm, hi⟩ := ho
  obtain ⟨m, e1, -, -, -, e5⟩ := hs.2 k m0 hm
  have := e5 j (by unfold zwp; rw [hi]; exact hw)
  simp only [zI, hm, e1, this]
theorem zobj_of {k : Nat} {c : zC} (hH : zHp r t h) (hc : zget t k = some c) (h1 : 100 ≤ c.1) : zobj h k := by
  obtain ⟨m, e1, hK⟩ := hH k c hc
  obtain ⟨fs, rfl, -⟩ := zK_obj (ci := c.1 - 100) hK (by omega)
  exact ⟨_, e1, rfl⟩
/-- one place more told of a cell -/
noncomputable def zad (t : zT) (k : Nat) (e : zL) (v : zV) : zT := match zget t k with
  | some c => zset t k (c.1, c.2.1, c.2.2.1, (e, v) :: zdel e c.2.2.2)
  | none => t
theorem zad_ok {k : Nat} {e : zL} {v : zV} {m : mC} {j : Int} {x : Value} (hH : zHp r t h) (hm : mi_c h k = some m) (he : zE r e j) (hx : zslot m j = some x) (hv : zQ r v j x) : zHp r (zad t k e v) h := by
  unfold zad
  split
  · rename_i c hc
    obtain ⟨m', e1, hK⟩ := hH k c hc
    rw [hm] at e1
    cases e1
    refine zHp_c hH hm ⟨hK.1, hK.2.1, hK.2.2.1, fun q hq => ?_⟩
    rcases List.mem_cons.mp hq with z | z
    · rw [z]; exact ⟨j, x, he, hx, hv⟩
    · exact hK.2.2.2 q (zdel_sub z)
  · exact hH
/-- is the place one of an int, in a cell that is told? -/
noncomputable def zisI (t : zT) (k : Nat) (e : zL) : Bool := match zget t k with
  | some c => (match zfnd e c.2.2.2 with
    | some (.inl _) => true
    | some (.inr (.inr (.inr (.inl _)))) => true
    | none => Nat.blt c.1 3
    | _ => false)
  | none => false
/-- a place's int by an unknown of its own -/
theorem zad_int {k i : Nat} {e : zL} {j : Int} (hH : zHp r t h) (hk : zisI t k e = true) (he : zE r e j) (h0 : 0 ≤ j) (h1 : j < zlen t k) (hi : r[i]? = some (zI h k j)) : zHp r (zad t k e (.inl (zX i))) h := by
  unfold zisI at hk
  split at hk
  · rename_i c hc
    obtain ⟨m, e1, hK⟩ := hH k c hc
    have key : ∃ y : Int32, zslot m j = some (.int y) := by
      split at hk
      · rename_i d hq
        obtain ⟨j', v, f1, f2, y, rfl, f3⟩ := hK.2.2.2 _ (zfnd_ok hq)
        rw [zE_fun he f1]
        exact ⟨y, f2⟩
      · rename_i d hq
        obtain ⟨a, b⟩ := d
        obtain ⟨j', v, f1, f2, y, rfl, f3⟩ := hK.2.2.2 _ (zfnd_ok hq)
        rw [zE_fun he f1]
        exact ⟨y, f2⟩
      · have hk0 := e_blt.mp hk
        obtain ⟨g, rfl⟩ := zK_ints hK hk0
        have hl : zlen t k = c.2.1 := by unfold zlen; rw [hc]
        exact ⟨g j.toNat, by simp only [zslot]; rw [if_pos ⟨h0, by omega⟩]⟩
      · cases hk
    obtain ⟨y, hy⟩ := key
    refine zad_ok hH e1 he hy ⟨y, rfl, ?_⟩
    rw [zI_at e1 hy] at hi
    exact zE_X hi
  · cases hk
/-- a state within another's, by forms for its unknowns, and by places where the others stand -/
abbrev zTg : Type := zS × List zL × List zSr
noncomputable def zstg (s : zS) (F : zTg) : Bool := zkey s.1 F.1.1 && (match zsrs s F.2.2 with
  | some g' => zfms s.2.2 (F.2.1 ++ g') s.1 F.1.1 && (zble s.2.2 (F.2.1 ++ g') F.1.2.2.1 && (zfle s.2.2 (F.2.1 ++ g') F.1.2.2.2.1 && (ztle s.2.2 (F.2.1 ++ g') s.2.1 F.1.2.1 && F.1.2.2.2.2.isEmpty)))
  | none => false)
theorem zstg_ok {s : zS} {F : zTg} {fs : List (Nat × mF)} (hs : zstg s F = true) (hR : zRS J r s fs h) : ∃ rc, rc.length = F.2.1.length + F.2.2.length ∧ (∀ (k : Nat) (e : zL), F.2.1[k]? = some e → ∃ x, rc[k]? = some x ∧ zE r e x) ∧ zRS J rc F.1 fs h := by
  obtain ⟨hf, hH, hE, hj⟩ := hR
  unfold zstg at hs
  rw [Bool.and_eq_true] at hs
  have hs := hs.2
  split at hs
  · rename_i g' hsrc
    simp only [Bool.and_eq_true] at hs
    obtain ⟨m1, m2, m3, m4, m5⟩ := hs
    obtain ⟨rc, hg, hB⟩ := zble_ok hE m2
    have hlen : g'.length = F.2.2.length := by
      have : ∀ (l : List zSr) (g : List zL), zsrs s l = some g → g.length = l.length := by
        intro l
        induction l with
        | nil => intro g hg; cases hg; rfl
        | cons a u ih =>
          intro g hg
          simp only [zsrs] at hg
          split at hg
          · rename_i e g2 h1 h2
            cases hg
            simp only [List.length_cons, ih _ h2]
          · cases hg
      exact this _ _ hsrc
    refine ⟨rc, ?_, fun k e hk => ?_, zfms_ok hE hg m1 hf, ztle_ok hE hg m4 hH, ⟨hB, zfle_ok hE hg m3, ?_⟩, hj⟩
    · rw [← hg.1, List.length_append, hlen]
    · exact hg.2 k e (by rw [List.getElem?_append_left (List.getElem?_eq_some_iff.mp hk).1]; exact hk)
    · rw [List.isEmpty_iff.mp m5]
      intro q hq
      cases hq
  · cases hs
/-- a run between states -/
theorem zseg {s0 : zS} {tg : List zTg} {fin : zS → Bool} {fuel : Nat} {fs : List (Nat × mF)} (hJ : ∀ h h', J h → zsm W h h' → J h') (hcal : zClO P S J cal) (hrun : zrun (zstep P D W false nf fk cal) (fun s => tg.any (zstg s) || fin s) fuel [s0] = true) (hR : zRS J r s0 fs h)
    (hcut : ∀ F ∈ tg, ∀ r1 rc fs h, rc.length = F.2.1.length + F.2.2.length → (∀ (k : Nat) (e : zL), F.2.1[k]? = some e → ∃ x, rc[k]? = some x ∧ zE (r ++ r1) e x) → zRS J rc F.1 fs h → zKK P S D Q fs h)
    (hfin : ∀ s, fin s = true → ∀ r1 fs h, zRS J (r ++ r1) s fs h → zKK P S D Q fs h) : zKK P S D Q fs h := by
  refine zrun_ok (r0 := r) (Ls := false) (fun q => by cases q) hJ hcal (stop := fun s => tg.any (zstg s) || fin s) ?_ fuel _ hrun s0 (List.mem_singleton_self _) [] fs h (by rw [List.append_nil]; exact hR)
  intro s hs r1 fs2 h2 hR2
  rw [Bool.or_eq_true] at hs
  rcases hs with hs | hs
  · obtain ⟨F, hF, hm⟩ := List.any_eq_true.mp hs
    obtain ⟨rc, q1, q2, q3⟩ := zstg_ok hm hR2
    exact hcut F hF r1 rc fs2 h2 q1 q2 q3
  · exact hfin s hs r1 fs2 h2 hR2
/-- the end of a method -/
theorem zfinQ {bd : zBd} {pre : zT} {ps : List (zPo × List (Nat ⊕ (Nat × zL)))} {s : zS} {r1 : List Int} {fs : List (Nat × mF)} (hf : zfin P r.length bd pre ps s = true) (hR : zRS J (r ++ r1) s fs h) (hQ : ∀ x, zDf pre h → (∃ po ∈ ps.map (fun p => p.1), ∃ s, zB (bd ++ po.1) (r ++ s) ∧ zFa po.2.1 (r ++ s) ∧ zPw (r ++ s) po.2.2.1 h ∧ zRt (r ++ s) po.2.2.2 x) → Q x h) : zKK P S D Q fs h := by
  have hk := zfin_ok (P := P) (S := S) (D := D) (J := fun k => k = h) (r0 := r) (W0 := zW0) (h0 := h) (Om := fun k => k = h) (fun k e => by subst e; exact ⟨zsm_rf, rfl⟩) hf ⟨hR.1, hR.2.1, hR.2.2.1, rfl⟩
  unfold zfin at hf
  split at hf
  · obtain ⟨⟨l0, st0, fs', rfl, hl, hst, hfr⟩, -⟩ := hR
    have hfr : fs' = [] := hfr
    subst hfr
    exact mi_T_mono hk (fun x h2 ⟨q1, q2⟩ => by subst q2; exact hQ x q1.2.1 q1.2.2)
  · cases hf
/-- the start of a method -/
theorem zstart {y : Nat} {bd : zBd} {fa : List zL} {args : List zV} {vs : List zV} {as : List Value} (hm : zmta (bd, fa, []) args = some (vs, en)) (hB : zB bd r) (hF : zFa fa r) (hA : zAr r args as) (hH : zHp r t h) (hj : J h) : ∃ s, zRS J (r ++ s) ([(y, 0, zent 0 vs, [])], t, en) [(y, (0, mi_ent 0 as, []))] h := by
  obtain ⟨s, hE, hS⟩ := zmta_ok hm ⟨hB, hF, fun q hq => by cases hq⟩ hA
  exact ⟨s, ⟨_, _, [], rfl, zent_ok 0 hS, rfl, rfl⟩, zHp_mono s hH, hE, hj⟩
/-- a contract with more said of what is behind it -/
theorem zapX {ct : zCt} {as : List zV} {xs : List Value} {q : List (Option zV × zT × zN)} {Z : Option Value → mH → Prop} (hwin : zwin ct.2.2.2.2.2.2.1 ct.2.2.2.2.2.1 = true)
    (hct : ∀ rc, zB ct.2.2.2.1 rc → zFa ct.2.2.2.2.1 rc → zAr rc ct.2.2.1 xs → zHp rc ct.2.2.2.2.2.1 h → mi_T P S D ct.1 (0, mi_ent 0 xs, []) h (fun x h' => zQo ct.2.2.2.1 ct.2.2.2.2.2.2.1 ct.2.2.2.2.2.1 ct.2.2.2.2.2.2.2.2 rc h x h' ∧ Z x h'))
    (hE : zEn en r) (hH : zHp r t h) (hs : zSt r as xs) (hq : zap W en t as ct = some q) : mi_T P S D ct.1 (0, mi_ent 0 xs, []) h (fun x h' => zsm W h h' ∧ Z x h' ∧ ∃ w ∈ q, ∃ s, zEn w.2.2 (r ++ s) ∧ zHp (r ++ s) w.2.1 h' ∧ zRo (r ++ s) w.1 x) := by
  unfold zap at hq
  split at hq
  · rename_i g hsrc
    rw [cond_eq_ite] at hq
    split at hq
    · rename_i hc
      simp only [Bool.and_eq_true] at hc
      obtain ⟨c1, c2, c3, c4, c5⟩ := hc
      obtain ⟨rc, hg, hB⟩ := zble_ok hE c2
      have hF := zfle_ok hE hg c3
      have hA := zale_ok hE hg c1 hs
      have hP := ztle_ok hE hg c4 hH
      refine mi_T_mono (hct rc hB hF hA hP) ?_
      intro x h' ⟨⟨k1, k2, po, hpo, s, p1, p2, p3, p4⟩, hO'⟩
      refine ⟨zsm_tr zsm_rf k1 (fun k j z => zwle_ok c5 k j z), hO', ?_⟩
      obtain ⟨a, ha1, ha2⟩ := zposts_ok hq po hpo
      have hOl : ∀ k c, zget t k = some c → zOl ct.2.2.2.2.2.2.1 r h h' k c := by
        intro k c hk
        obtain ⟨m, e1, hK⟩ := hH k c hk
        obtain ⟨m', e2, e3, e4, e5, e6⟩ := k1.2 k m e1
        refine ⟨m, m', e1, e2, hK, e3, e4, e5, e6, fun hj => ?_⟩
        obtain ⟨d, hd⟩ := zwin_ok hwin hj
        obtain ⟨m2, f1, f2⟩ := k2 k d hd
        rw [e2] at f1
        cases f1
        rw [ztle_df c4 hk hd]
        exact f2
      obtain ⟨w, hw, s2, r1, r2, r3⟩ := zpost_ok hE hg hB.1 hOl p1 p2 p3 p4 ha1
      exact ⟨w, ha2 w hw, s2, r1, r2, r3⟩
    · cases hq
  · cases hq
noncomputable def zhcb (P : mP) (D y : Nat) (st : List zV) (fr : List zF) (t : zT) : Bool := Nat.ble (P.get y).2.1 st.length && (Nat.ble (zcats (st.drop (P.get y).2.1)) 8 && (Nat.ble (zcats (st.take (P.get y).2.1)) (P.get y).2.2.2.2.1 && (zrcv (P.get y).2.2.2.1 (st.take (P.get y).2.1).reverse t && Nat.blt fr.length D)))
/-- a call by hand -/
theorem zhc {ct : zCt} {m pc : Nat} {l : List (Nat × zV)} {st : List zV} {fr : List zF} {q : List (Option zV × zT × zN)} {Z : Option Value → mH → Prop} {fs : List (Nat × mF)} (hi : mi_at P m pc = .invokevirtual ct.1) (hb : zhcb P D ct.1 st fr t = true) (hq : zap W en t (st.take (P.get ct.1).2.1).reverse ct = some q) (hwin : zwin ct.2.2.2.2.2.2.1 ct.2.2.2.2.2.1 = true)
    (hct : ∀ xs rc, zB ct.2.2.2.1 rc → zFa ct.2.2.2.2.1 rc → zAr rc ct.2.2.1 xs → zHp rc ct.2.2.2.2.2.1 h → mi_T P S (D - fr.length - 1) ct.1 (0, mi_ent 0 xs, []) h (fun x h' => zQo ct.2.2.2.1 ct.2.2.2.2.2.2.1 ct.2.2.2.2.2.1 ct.2.2.2.2.2.2.2.2 rc h x h' ∧ Z x h'))
    (hR : zRS J r ((m, pc, l, st) :: fr, t, en) fs h)
    (hg : ∀ w ∈ q, ∀ s x h' fs', zsm W h h' → Z x h' → zRo (r ++ s) w.1 x → zRS (fun k => k = h') (r ++ s) ((m, pc + 1, l, w.1.toList ++ st.drop (P.get ct.1).2.1) :: fr, w.2.1, w.2.2) fs' h' → zKK P S D Q fs' h') : zKK P S D Q fs h := by
  unfold zhcb at hb
  simp only [Bool.and_eq_true] at hb
  obtain ⟨b1, b2, b3, b4, b5⟩ := hb
  have b1 := e_ble.mp b1
  have b2 := e_ble.mp b2
  have b3 := e_ble.mp b3
  have b5 := e_blt.mp b5
  obtain ⟨⟨l0, st0, fs', rfl, hl, hst, hfr⟩, hH, hE, hs⟩ := hR
  have hlen := zFs_len hfr
  have hargs := zSt_rev (zSt_take (P.get ct.1).2.1 hst)
  have hrest := zSt_drop (P.get ct.1).2.1 hst
  have ha : mi_args (P.get ct.1).2.1 st0 = some ((st0.take (P.get ct.1).2.1).reverse, st0.drop (P.get ct.1).2.1) := by
    unfold mi_args
    rw [if_pos (by rw [zSt_len hst]; exact b1)]
  have h8 : ((st0.drop (P.get ct.1).2.1).map fun v => v.category).sum ≤ 8 := by rw [zSt_cats hrest]; exact b2
  have hm : (((st0.take (P.get ct.1).2.1).reverse).map fun v => v.category).sum ≤ (P.get ct.1).2.2.2.2.1 := by
    rw [List.map_reverse, List.sum_reverse, zSt_cats (zSt_take (P.get ct.1).2.1 hst)]
    exact b3
  have hrc := zrcv_ok hH hargs b4
  obtain ⟨d', hd'⟩ : ∃ d', D - fs'.length = d' + 1 := ⟨D - fs'.length - 1, by omega⟩
  show mi_T P S (D - fs'.length) m (pc, l0, st0) h (zKs P S D Q fs')
  rw [hd']
  refine mi_T_ca hi ha h8 hm hrc ?_
  have hdd : D - fr.length - 1 = d' := by omega
  rw [hdd] at hct
  refine mi_T_mono (zapX hwin (hct _) hE hH hargs hq) ?_
  intro x h' ⟨k1, k2, w, hw, s, f1, f2, f3⟩
  have := hg w hw s x h' ((m, (pc + 1, l0, x.toList ++ st0.drop (P.get ct.1).2.1)) :: fs') k1 k2 f3 ⟨⟨l0, _, fs', rfl, zLo_mono s hl, zRo_st f3 (zSt_mono s hrest), zFs_mono s hfr⟩, f2, f1, rfl⟩
  rw [← hd']
  exact this
end ZX
