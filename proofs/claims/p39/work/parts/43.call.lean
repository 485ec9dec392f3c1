/-! a call by a contract is sound -/
def zOl (W : zW) (r : List Int) (h h' : mH) (k : Nat) (c : zC) : Prop := ∃ m m', mi_c h k = some m ∧ mi_c h' k = some m' ∧ zKc r c m ∧ zknd m' = zknd m ∧ zia m' = zia m ∧ (zwf m → zwf m') ∧ (∀ j : Nat, zw W k (zwp m j) = false → zslot m' j = zslot m j) ∧ (zjs W k ≠ [] → ∀ j v, zslot m' j = some v → zD c.2.2.1 j v)
def zNw (r : List Int) (h' : mH) (k : Nat) (c : zC) : Prop := ∃ m', mi_c h' k = some m' ∧ zKc r c m'
section ZO2
variable {P : mP} {S : Nat × (Nat → Int32)} {W W' : zW} {en : zN} {g : List zL} {r rc : List Int} {t : zT} {h h' : mH} {k : Nat} {c : zC}
theorem zslot_neg {m : mC} {j : Int} {v : Value} (hj : zslot m j = some v) : 0 ≤ j := by
  match m, hj with
  | .inl (_, n, .inl g), hj => simp only [zslot] at hj; split at hj <;> first | omega | cases hj
  | .inl (_, n, .inr (.inl g)), hj => simp only [zslot] at hj; split at hj <;> first | omega | cases hj
  | .inl (_, n, .inr (.inr g)), hj => simp only [zslot] at hj; split at hj <;> first | omega | cases hj
  | .inr (_, fs), hj => simp only [zslot] at hj; split at hj <;> first | omega | cases hj
theorem zjs_no (hj : zjs W k = []) (j : Nat) : zw W k j = false := by
  cases q : zw W k j with
  | false => rfl
  | true => have := zjs_w q; rw [hj] at this; cases this
theorem zOl_df (H : zOl W r h h' k c) : ∀ m', mi_c h' k = some m' → ∀ j v, zslot m' j = some v → zD c.2.2.1 j v := by
  obtain ⟨m, m1, e1, e2, hK, hn, hi, hf, hs, hd⟩ := H
  intro m' hm j v hv
  rw [e2] at hm
  cases hm
  by_cases hj : zjs W k = []
  · have h0 := zslot_neg hv
    have := hs j.toNat (zjs_no hj _)
    rw [show ((j.toNat : Nat) : Int) = j by omega, hv] at this
    exact hK.2.2.1 j v this.symm
  · exact hd hj j v hv
theorem zOl_put {ms : List (zL × zV)} (H : zOl W r h h' k c) (hms : ∀ m', mi_c h' k = some m' → ∀ w ∈ ms, ∃ j v, zE r w.1 j ∧ zslot m' j = some v ∧ zQ r w.2 j v) : zNw r h' k (c.1, c.2.1, c.2.2.1, ms ++ zfg (zjs W k) c) := by
  have hdf := zOl_df H
  obtain ⟨m, m1, e1, e2, hK, hn, hi, hf, hs, hd⟩ := H
  refine ⟨m1, e2, hf hK.1, by rw [hn]; exact hK.2.1, hdf m1 e2, fun q hq => ?_⟩
  rcases List.mem_append.mp hq with q1 | q1
  · exact hms m1 e2 q q1
  · exact zfg_ok hK hn hi hs q q1
theorem zfg_sub {js : List Nat} {w : zL × zV} (hw : w ∈ zfg js c) : w ∈ c.2.2.2 := by
  unfold zfg at hw
  split at hw
  · exact hw
  · rw [cond_eq_ite] at hw
    split at hw
    · cases hw
    · exact (List.mem_filter.mp hw).1
theorem zforg_get (t : zT) (k : Nat) : (zforg W t).get k = ((t.get k).1, (t.get k).2.1, (t.get k).2.2.1, (t.get k).2.2.2.1, zfg (zjs W ((t.get k).1 - 1)) (t.get k).2) := by
  induction t with
  | leaf a => rfl
  | branch p l r hl hr =>
    have e1 : zforg W (.branch p l r) = .branch p (zforg W l) (zforg W r) := rfl
    have e2 : (Lean.RArray.branch p (zforg W l) (zforg W r)).get k = (Nat.ble p k).rec ((zforg W l).get k) ((zforg W r).get k) := rfl
    have e3 : (Lean.RArray.branch p l r).get k = (Nat.ble p k).rec (l.get k) (r.get k) := rfl
    rw [e1, e2, e3]
    cases Nat.ble p k with
    | false => exact hl
    | true => exact hr
theorem zforg_ok (H : ∀ k c, zget t k = some c → zOl W r h h' k c) : zHp r (zforg W t) h' := by
  intro k c hk
  unfold zget at hk
  rw [zforg_get, cond_eq_ite] at hk
  split at hk
  · rename_i hb
    have hb' := Nat.eq_of_beq_eq_true hb
    have hk := Option.some.inj hk
    have hc : zget t k = some (t.get k).2 := by
      unfold zget
      rw [cond_eq_ite]
      have hb2 : ((t.get k).1.beq (k + 1)) = true := hb
      rw [if_pos hb2]
    have := zOl_put (ms := []) (H k _ hc) (fun m' _ w hw => by cases hw)
    simp only at hb'
    rw [hb', Nat.add_sub_cancel] at hk
    rw [← hk]
    exact this
  · cases hk
theorem zputs_ok (hg : zGr g r rc) : ∀ {wr : List (Nat × List (zL × zV))} {t t' : zT}, zputs g wr t = some t' → zHp r t h' → zPw rc wr h' → zHp r t' h'
  | [], t, t', e, H, _ => by cases e; exact H
  | (k0, ms) :: u, t, t', e, H, hw => by
    have hw' : zPw rc u h' := fun q hq => hw q (List.mem_cons_of_mem _ hq)
    simp only [zputs] at e
    split at e
    · rename_i c0 hc0
      split at e
      · rename_i ms' hms
        obtain ⟨m, e1, e2⟩ := hw (k0, ms) (List.mem_cons_self ..)
        obtain ⟨m', f1, f2⟩ := H k0 c0 hc0
        have e1 : mi_c h' k0 = some m := e1
        rw [e1] at f1
        cases f1
        refine zputs_ok hg e (zHp_c H e1 ⟨f2.1, f2.2.1, f2.2.2.1, fun w hw => ?_⟩) hw'
        rcases List.mem_append.mp hw with g1 | g1
        · exact zsms_ok hg hms e2 w g1
        · exact f2.2.2.2 w g1
      · cases e
    · exact zputs_ok hg e H hw'
theorem znew_len : ∀ (k n : Nat), (znew n k).length = k
  | 0, _ => rfl
  | k + 1, n => by simp [znew, znew_len k]
theorem znew_get : ∀ {k n i : Nat} {e : zL}, (znew n k)[i]? = some e → e = zX (n + i)
  | 0, n, i, e, h => by simp [znew] at h
  | k + 1, n, 0, e, h => by simp [znew] at h; rw [← h]; rfl
  | k + 1, n, i + 1, e, h => by
    simp only [znew, List.getElem?_cons_succ] at h
    have := znew_get h
    rw [this]
    congr 1
    omega
/-- the unknowns of what is behind a call -/
theorem zGr_app {s : List Int} (hg : zGr g r rc) (n : Nat) (hn : s.length = n) : zGr (g ++ znew r.length n) (r ++ s) (rc ++ s) := by
  refine ⟨by simp [hg.1, znew_len, hn], fun k e hk => ?_⟩
  rcases Nat.lt_or_ge k g.length with hl | hl
  · rw [List.getElem?_append_left hl] at hk
    obtain ⟨x, h1, h2⟩ := hg.2 k e hk
    exact ⟨x, by rw [List.getElem?_append_left (by rw [← hg.1]; exact hl)]; exact h1, zE_mono s h2⟩
  · rw [List.getElem?_append_right hl] at hk
    have hlt : k - g.length < n := by
      have := (List.getElem?_eq_some_iff.mp hk).1
      rw [znew_len] at this
      exact this
    have he := znew_get hk
    have hx : s[k - g.length]? = some s[k - g.length] := List.getElem?_eq_getElem (by omega)
    refine ⟨s[k - g.length], ?_, ?_⟩
    · rw [List.getElem?_append_right (by rw [← hg.1]; exact hl), ← hg.1]
      exact hx
    · rw [he]
      refine zE_X ?_
      rw [List.getElem?_append_right (by omega), show r.length + (k - g.length) - r.length = k - g.length by omega]
      exact hx
theorem zB_app2 {bd bc nb : zBd} {s : List Int} (h1 : zB bd r) (h2 : zB (bc ++ nb) (rc ++ s)) (hl : bc.length = rc.length) : zB (bd ++ nb) (r ++ s) ∧ s.length = nb.length := by
  have hlen : s.length = nb.length := by have := h2.1; simp [hl] at this; omega
  refine ⟨⟨by simp [h1.1, hlen], fun k b hk => ?_⟩, hlen⟩
  rcases Nat.lt_or_ge k bd.length with hq | hq
  · rw [List.getElem?_append_left hq] at hk
    obtain ⟨y, q1, q2⟩ := h1.2 k b hk
    exact ⟨y, by rw [List.getElem?_append_left (by rw [← h1.1]; exact hq)]; exact q1, q2⟩
  · rw [List.getElem?_append_right hq] at hk
    obtain ⟨y, q1, q2⟩ := h2.2 (bc.length + (k - bd.length)) b (by rw [List.getElem?_append_right (by omega), show bc.length + (k - bd.length) - bc.length = k - bd.length by omega]; exact hk)
    refine ⟨y, ?_, q2⟩
    rw [List.getElem?_append_right (by omega), show bc.length + (k - bd.length) - rc.length = k - bd.length by omega] at q1
    rw [List.getElem?_append_right (by rw [← h1.1]; exact hq), ← h1.1]
    exact q1
theorem zsbs_ok (hg : zGr g r rc) : ∀ {fs fs' : List zL}, zsbs g fs = some fs' → zFa fs rc → ∀ e ∈ fs', ∃ x, zE r e x ∧ x ≤ 0
  | [], fs', h, _, e, he => by cases h; cases he
  | f :: t, fs', h, hF, e, he => by
    simp only [zsbs] at h
    split at h
    · rename_i q u h1 h2
      cases h
      rcases List.mem_cons.mp he with z | z
      · rw [z]
        obtain ⟨x, g1, g2⟩ := hF f (List.mem_cons_self ..)
        exact ⟨x, zsb_of hg h1 g1, g2⟩
      · exact zsbs_ok hg h2 (fun f hf => hF f (List.mem_cons_of_mem _ hf)) e z
    · cases h
def zRo (r : List Int) (p : Option zV) (x : Option Value) : Prop := match p with
  | none => x = none
  | some v => ∃ y, x = some y ∧ zR r v y
theorem zans_ok {p : Option zV} {q : List (Option zV × zN)} {x : Option Value} (hE : zEn en r) (hg : zGr g r rc) (h : zans g en p = some q) (hx : zRt rc p x) : ∃ w ∈ q, ∃ s, zEn w.2 (r ++ s) ∧ zRo (r ++ s) w.1 x := by
  unfold zans at h
  split at h
  · cases h
    exact ⟨_, List.mem_singleton_self _, [], by rw [List.append_nil]; exact hE, hx⟩
  · rename_i v
    obtain ⟨y, rfl, hy⟩ := hx
    split at h
    · rename_i pp hs
      rw [cond_eq_ite] at h
      split at h
      · rename_i hkp
        cases h
        have hQ := zsv_of hg hs hy
        have hp : ∀ k, pp = .inr k → k < 3 := by
          intro k e
          subst e
          exact e_blt.mp hkp
        obtain ⟨w, hw, s, e1, e2, e3⟩ := zmat_ok hE hQ (zE_K (c := 0)) hp
        exact ⟨_, List.mem_map_of_mem hw, s, e1, y, rfl, e3, e2⟩
      · cases h
    · rename_i w hw hs
      cases h
      refine ⟨_, List.mem_singleton_self _, [], by rw [List.append_nil]; exact hE, y, rfl, ?_, by rw [List.append_nil]; exact zsv_of hg hs hy⟩
      match w, hw with
      | .inl e, _ => rfl
      | .inr (.inl k), _ => rfl
      | .inr (.inr (.inl e)), _ => rfl
      | .inr (.inr (.inr p)), hw => exact absurd rfl (hw p)
    · cases h
theorem zpost_ok {po : zPo} {q : List (Option zV × zT × zN)} {bc : zBd} {s : List Int} {x : Option Value} (hE : zEn en r) (hg : zGr g r rc) (hbc : bc.length = rc.length) (H : ∀ k c, zget t k = some c → zOl W r h h' k c) (h1 : zB (bc ++ po.1) (rc ++ s)) (h2 : zFa po.2.1 (rc ++ s)) (h3 : zPw (rc ++ s) po.2.2.1 h') (h4 : zRt (rc ++ s) po.2.2.2 x) (hq : zpost W g en t po = some q) : ∃ w ∈ q, ∃ s, zEn w.2.2 (r ++ s) ∧ zHp (r ++ s) w.2.1 h' ∧ zRo (r ++ s) w.1 x := by
  obtain ⟨hB, hlen⟩ := zB_app2 hE.1 h1 hbc
  have hg' := zGr_app hg po.1.length hlen
  rw [← hE.1.1] at hg'
  unfold zpost at hq
  split at hq
  · rename_i fs hfs
    obtain ⟨en', e1, hE'⟩ := zasms_ok (en := (en.1 ++ po.1, en.2)) ⟨hB, zFa_mono s hE.2.1, zPd_mono s hE.2.2⟩ (zsbs_ok hg' hfs h2)
    rw [e1] at hq
    simp only at hq
    split at hq
    · rename_i t' as ht' has
      cases hq
      obtain ⟨w, hw, s2, f1, f2⟩ := zans_ok hE' hg' has h4
      refine ⟨_, List.mem_map_of_mem hw, s ++ s2, ?_, ?_, ?_⟩
      · rw [← List.append_assoc]; exact f1
      · rw [← List.append_assoc]
        exact zHp_mono s2 (zputs_ok hg' ht' (zHp_mono s (zforg_ok H)) h3)
      · rw [← List.append_assoc]; exact f2
    · cases hq
  · cases hq
theorem zposts_ok : ∀ {ps : List zPo} {q : List (Option zV × zT × zN)}, zposts W g en t ps = some q → ∀ po ∈ ps, ∃ a, zpost W g en t po = some a ∧ ∀ w ∈ a, w ∈ q
  | [], q, h, po, hp => by cases hp
  | p :: u, q, h, po, hp => by
    simp only [zposts] at h
    split at h
    · rename_i a b h1 h2
      cases h
      rcases List.mem_cons.mp hp with z | z
      · rw [z]; exact ⟨a, h1, fun w hw => List.mem_append_left _ hw⟩
      · obtain ⟨a', g1, g2⟩ := zposts_ok h2 po z
        exact ⟨a', g1, fun w hw => List.mem_append_right _ (g2 w hw)⟩
    · cases h
theorem zwin_ok {u : zT} (hw : zwin W u = true) (hj : zjs W k ≠ []) : ∃ d, zget u k = some d := by
  have hm := zwlv_mem W k
  unfold zjs at hj
  rw [cond_eq_ite] at hj
  split at hj
  · rename_i hb
    have hb := Nat.eq_of_beq_eq_true hb
    have hq := List.all_eq_true.mp hw _ hm
    rw [hb, Bool.or_eq_true, Nat.add_sub_cancel] at hq
    rcases hq with hq | hq
    · cases hq
    · split at hq
      · rename_i he; exact absurd he hj
      · exact Option.isSome_iff_exists.mp hq
  · exact absurd rfl hj
theorem ztle_df {u : zT} {d : zC} (hl : ztle en g t u = true) (hc : zget t k = some c) (hd : zget u k = some d) : c.2.2.1 = d.2.2.1 := by
  have hm := zlvs_mem u k
  unfold zget at hd
  rw [cond_eq_ite] at hd
  split at hd
  · rename_i hb
    have hb := Nat.eq_of_beq_eq_true hb
    have hq := List.all_eq_true.mp hl _ hm
    rw [hb, Bool.or_eq_true, Nat.add_sub_cancel, hc] at hq
    cases hd
    rcases hq with hq | hq
    · cases hq
    · simp only [zcle, Bool.and_eq_true] at hq
      exact zpeq_eq hq.2.2.1
  · cases hd
theorem zap_ok {Om : mH → Prop} {ct : zCt} {as : List zV} {xs : List Value} {q : List (Option zV × zT × zN)} {D : Nat} (hct : zCtr P S Om ct) (hD : ct.2.1 ≤ D) (hO : Om h) (hE : zEn en r) (hH : zHp r t h) (hs : zSt r as xs) (hq : zap W en t as ct = some q) : mi_T P S D ct.1 (0, mi_ent 0 xs, []) h (fun x h' => zsm W h h' ∧ Om h' ∧ ∃ w ∈ q, ∃ s, zEn w.2.2 (r ++ s) ∧ zHp (r ++ s) w.2.1 h' ∧ zRo (r ++ s) w.1 x) := by
  unfold zap at hq
  split at hq
  · rename_i g hsrc
    rw [cond_eq_ite] at hq
    split at hq
    · rename_i hc
      simp only [Bool.and_eq_true] at hc
      obtain ⟨c1, c2, c3, c4, c5⟩ := hc
      obtain ⟨rc, hg, hB⟩ := zble_ok hE c2
      have hF := zfle_ok hE hg c3
      have hA := zale_ok hE hg c1 hs
      have hP := ztle_ok hE hg c4 hH
      refine mi_T_mono (hct.2 D hD rc xs h hO hB hF hA hP) ?_
      intro x h' ⟨⟨k1, k2, po, hpo, s, p1, p2, p3, p4⟩, hO'⟩
      refine ⟨zsm_tr zsm_rf k1 (fun k j z => zwle_ok c5 k j z), hO', ?_⟩
      obtain ⟨a, ha1, ha2⟩ := zposts_ok hq po hpo
      have hOl : ∀ k c, zget t k = some c → zOl ct.2.2.2.2.2.2.1 r h h' k c := by
        intro k c hk
        obtain ⟨m, e1, hK⟩ := hH k c hk
        obtain ⟨m', e2, e3, e4, e5, e6⟩ := k1.2 k m e1
        refine ⟨m, m', e1, e2, hK, e3, e4, e5, e6, fun hj => ?_⟩
        obtain ⟨d, hd⟩ := zwin_ok hct.1 hj
        obtain ⟨m2, f1, f2⟩ := k2 k d hd
        rw [e2] at f1
        cases f1
        rw [ztle_df c4 hk hd]
        exact f2
      obtain ⟨w, hw, s2, r1, r2, r3⟩ := zpost_ok hE hg hB.1 hOl p1 p2 p3 p4 ha1
      exact ⟨w, ha2 w hw, s2, r1, r2, r3⟩
    · cases hq
  · cases hq
end ZO2
