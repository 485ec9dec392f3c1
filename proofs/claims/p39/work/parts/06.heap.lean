/-! the instructions on cells -/
theorem mi_cl_in : (List.range 13).all (fun i => match mcl[i]? with
    | some (C, T, N) => decide ((mi_tys0.getD i []).length = N) && (decide ((mi_dfl0.getD i []).length = N) && ((List.range N).all (fun k => decide (parseFieldDescriptor (T k).2.2.1 = some ((mi_tys0.getD i []).getD k .int)) && decide (defaultValue ((mi_tys0.getD i []).getD k .int) = (mi_dfl0.getD i []).getD k .null))))
    | none => false) = true := by decide +kernel
theorem mi_cl_nm : (List.range 13).all (fun i => match mcl[i]? with
    | some (_, T, N) => (List.range N).all (fun a => (List.range N).all (fun b => decide (a = b) || !((T a).2.1 == (T b).2.1)))
    | none => false) = true := by decide +kernel
theorem mi_mcl_len : mcl.length = 13 := by decide +kernel
theorem mi_dfl_len : mi_dfl0.length = 13 := by decide +kernel
/-- all that is known of a class by its number -/
theorem mi_cls {ci : Nat} {C : String} {T : u_T} {N : Nat} (hc : mcl[ci]? = some (C, T, N)) : (mi_tys0.getD ci []).length = N ∧ (mi_dfl0.getD ci []).length = N ∧ (∀ k, k < N → parseFieldDescriptor (T k).2.2.1 = some ((mi_tys0.getD ci []).getD k .int) ∧ defaultValue ((mi_tys0.getD ci []).getD k .int) = (mi_dfl0.getD ci []).getD k .null) ∧ (∀ a, a < N → ∀ b, b < N → a ≠ b → (T a).2.1 ≠ (T b).2.1) := by
  have hlt : ci < 13 := by
    have := (List.getElem?_eq_some_iff.mp hc).1
    rw [mi_mcl_len] at this
    exact this
  have h1 := List.all_eq_true.mp mi_cl_in ci (List.mem_range.mpr hlt)
  have h2 := List.all_eq_true.mp mi_cl_nm ci (List.mem_range.mpr hlt)
  simp only [hc, Bool.and_eq_true, decide_eq_true_eq] at h1 h2
  refine ⟨h1.1, h1.2.1, fun k hk => ?_, fun a ha b hb hab => ?_⟩
  · have h3 := List.all_eq_true.mp h1.2.2 k (List.mem_range.mpr hk)
    simp only [Bool.and_eq_true, decide_eq_true_eq] at h3
    exact h3
  · have h3 := List.all_eq_true.mp (List.all_eq_true.mp h2 a (List.mem_range.mpr ha)) b (List.mem_range.mpr hb)
    simp only [Bool.or_eq_true, decide_eq_true_eq, Bool.not_eq_true', beq_eq_false_iff_ne] at h3
    exact h3.resolve_left hab
/-- its fields' words are among those that every method has -/
def mi_lay_ok (ci : Nat) : Prop := ∀ (C : String) (T : u_T) (N : Nat), mcl[ci]? = some (C, T, N) → ∀ w ∈ u_ws C T N, w ∈ mi_tb
theorem mi_lay_of {C : String} {T : u_T} {N : Nat} (ps : List Nat) (h : (List.range N).all (fun k => decide (lw_tbl[ps.getD k 0]? = some (u_lay C T k))) = true) : ∀ w ∈ u_ws C T N, w ∈ mi_tb := by
  intro w hw
  obtain ⟨k, hk, rfl⟩ := List.mem_map.mp hw
  have h1 := List.all_eq_true.mp h k hk
  simp only [decide_eq_true_eq] at h1
  refine mi_tbw h1 ?_
  unfold u_lay
  split <;> rfl
theorem mi_lays : ∀ ci, mi_lay_ok ci := by
  intro ci C T N hc
  match ci, hc with
  | 0, hc => cases hc; exact mi_lay_of kPs0 kIn0
  | 1, hc => cases hc; exact mi_lay_of kPs1 kIn1
  | 2, hc => cases hc; exact mi_lay_of kPs2 kIn2
  | 3, hc => cases hc; exact mi_lay_of kPs3 kIn3
  | 4, hc => cases hc; exact mi_lay_of kPs4 kIn4
  | 5, hc => cases hc; exact mi_lay_of kPs5 kIn5
  | 6, hc => cases hc; exact mi_lay_of kPs6 kIn6
  | 7, hc => cases hc; exact mi_lay_of kPs7 kIn7
  | 8, hc => cases hc; exact mi_lay_of kPs8 kIn8
  | 9, hc => cases hc; exact mi_lay_of kPs9 kIn9
  | 10, hc => cases hc; exact mi_lay_of kPs10 kIn10
  | 11, hc => cases hc; exact mi_lay_of kPs11 kIn11
  | 12, hc => cases hc; exact mi_lay_of kPs12 kIn12
  | n + 13, hc => exact absurd (List.getElem?_eq_some_iff.mp hc).1 (by rw [mi_mcl_len]; omega)
section MIH
variable {p : Program} {l : Launch} {e : Env} {R : Room} {s : State} {m : MethodId} {args : Array Value} {below : List Frame} {meth : Method} {c : Code} {cells slots : Nat} {Q : State → Prop}
variable {av : Nat → Nat} {z : Nat} {S : Nat × (Nat → Int32)} {cA dC : Nat → ClassId} {dI : Nat → Nat → Nat}
variable {cc : ByteArray} {own : String} {ini : Bool} {nL : Nat} {rp : Nat → Nat} {hint len : Nat} {ri : Instr} {h h' : mH} {f f' : mF}
theorem mi_q_getf {q idx : Nat} (X : mi_X cc own ini nL p s m args meth c) (K : mi_K av cA dC dI s) (hst : mi_getf q f h = some (f', h')) (hn : rp (f.1 + 1) = rp f.1 + 3) (hfl : mi_fl own idx q hint = true) (hdg : decode cc (rp f.1) = .ok (.getfield idx, 3)) (k : mi_V p l e R s m args below meth c Q av z S cA dC dI nL rp h' f' cells slots) : mi_V p l e R s m args below meth c Q av z S cA dC dI nL rp h f cells slots := by
  intro ls H locs hz hR hS hl
  obtain ⟨hx, hb, hml, hown, hts, -⟩ := X
  obtain ⟨pc, l0, st⟩ := f
  unfold mi_getf at hst
  split at hst
  · rename_i r st' he
    simp only at he hl hdg hst hn
    subst he
    split at hst
    · rename_i ci fs hc
      split at hst
      · rename_i hci
        split at hst
        · rename_i v hv
          cases hst
          obtain ⟨h3, hcell⟩ := mi_c_of hc
          unfold mi_fl at hfl
          split at hfl
          · rename_i C T N hcl
            simp only [Bool.and_eq_true, decide_eq_true_eq, mi_has_w] at hfl
            have hlink := hts _ (mi_tbw hfl.2.1 hfl.2.2)
            have he := mi_ws_get (ad := mi_ad av z) (cA := cA) (z := z) hcell
            have := k ls H locs hz hR hS hl
            simp only [hn, List.map_cons] at this
            simp only [List.map_cons, mi_up, mi_ad_ge h3]
            subst hci
            exact va_get hx hb hts (mi_lays _ C T N hcl) hown K.1 hR.2.1 (r - 6) he hcl (q % 128) hfl.1 hlink (fun _ h => h) (v := mi_up (mi_ad av z) v) (by simp [hv]) hdg this
          · cases hfl
        · cases hst
      · cases hst
    · cases hst
  · cases hst
/-- a cell is written: the rest stays -/
theorem mi_R_w {r : Nat} {cell' : mC} {H H1 : Heap} {locs locs1 : List Loc} (hR : mi_R av z S cA dC dI h s H) (hS : va_S (fun q => z ≤ q) s.heap H locs) (hS1 : va_S (fun q => z ≤ q) s.heap H1 locs1) (hzs : z ≤ s.heap.size) (hP : va_P (dC, dI) mcl ((mi_ws (mi_ad av z) cA z h).set (r - 6) (z + (r - 6), mi_em (mi_ad av z) cA cell')) H1) : mi_R av z S cA dC dI (mi_w h r cell') s H1 := by
  have hq : ∀ a : Nat, a < H.size → ¬ z ≤ a → H1[a]? = H[a]? := fun a _ hb => by rw [hS1.2.1 a (by omega) hb, hS.2.1 a (by omega) hb]
  refine ⟨?_, ?_, hR.2.2.1, hR.2.2.2.kept hq⟩
  · refine hR.1.kept ?_
    have hb : av 0 < z := hR.2.2.1
    have hb2 : ¬ z ≤ av 0 := by omega
    rw [hS1.2.1 (av 0) (by omega) hb2, hS.2.1 (av 0) (by omega) hb2]
  · rw [mi_w, mi_ws_set]
    exact hP
/-- a cell is made -/
theorem mi_R_a {cell : mC} {H H1 : Heap} {locs locs1 : List Loc} (hR : mi_R av z S cA dC dI h s H) (hS : va_S (fun q => z ≤ q) s.heap H locs) (hS1 : va_S (fun q => z ≤ q) s.heap H1 locs1) (hzs : z ≤ s.heap.size) (hP : va_P (dC, dI) mcl (mi_ws (mi_ad av z) cA z h ++ [(z + h.length, mi_em (mi_ad av z) cA cell)]) H1) : mi_R av z S cA dC dI (h ++ [cell]) s H1 := by
  have hq : ∀ a : Nat, a < H.size → ¬ z ≤ a → H1[a]? = H[a]? := fun a _ hb => by rw [hS1.2.1 a (by omega) hb, hS.2.1 a (by omega) hb]
  refine ⟨?_, ?_, hR.2.2.1, hR.2.2.2.kept hq⟩
  · refine hR.1.kept ?_
    have hb : av 0 < z := hR.2.2.1
    have hb2 : ¬ z ≤ av 0 := by omega
    rw [hS1.2.1 (av 0) (by omega) hb2, hS.2.1 (av 0) (by omega) hb2]
  · rw [mi_ws_app]
    exact hP
theorem mi_w_len (h : mH) (r : Nat) (x : mC) : (mi_w h r x).length = h.length := by simp [mi_w]
theorem mi_q_putf {q idx : Nat} (X : mi_X cc own ini nL p s m args meth c) (K : mi_K av cA dC dI s) (hzs : z ≤ s.heap.size) (hst : mi_putf q f h = some (f', h')) (hn : rp (f.1 + 1) = rp f.1 + 3) (hfl : mi_fl own idx q hint = true) (hfi : mi_fin own ini q = true) (hdg : decode cc (rp f.1) = .ok (.putfield idx, 3)) (k : mi_V p l e R s m args below meth c Q av z S cA dC dI nL rp h' f' cells slots) : mi_V p l e R s m args below meth c Q av z S cA dC dI nL rp h f cells slots := by
  intro ls H locs hz hR hS hl
  obtain ⟨hx, hb, hml, hown, hts, hini⟩ := X
  obtain ⟨pc, l0, st⟩ := f
  unfold mi_putf at hst
  split at hst
  · rename_i v r st' he
    simp only at he hl hdg hst hn
    subst he
    split at hst
    · rename_i ci fs hc
      split at hst
      · rename_i hci
        obtain ⟨hci, hlen, hfit⟩ := hci
        cases hst
        obtain ⟨h3, hcell⟩ := mi_c_of hc
        unfold mi_fl at hfl
        split at hfl
        · rename_i C T N hcl
          simp only [Bool.and_eq_true, decide_eq_true_eq, mi_has_w] at hfl
          have hlink := hts _ (mi_tbw hfl.2.1 hfl.2.2)
          have he := mi_ws_get (ad := mi_ad av z) (cA := cA) (z := z) hcell
          obtain ⟨cl1, cl2, cl3, cl4⟩ := mi_cls hcl
          have hft := mi_fit_ok (mi_ad av z) hfit
          have hkk : ∀ (H1 : Heap) (locs1 : List Loc), va_P (dC, dI) mcl ((mi_ws (mi_ad av z) cA z h).set (r - 6) (z + (r - 6), .inr (ci, (fs.map (mi_up (mi_ad av z))).set (q % 128) (mi_up (mi_ad av z) v)))) H1 → va_D (fun q => z ≤ q) ((mi_ws (mi_ad av z) cA z h).set (r - 6) (z + (r - 6), .inr (ci, (fs.map (mi_up (mi_ad av z))).set (q % 128) (mi_up (mi_ad av z) v)))) → va_S (fun q => z ≤ q) s.heap H1 locs1 → W p l e R s m args below meth c H1 locs1 cells slots Q (F0 m (rp pc + 3) ls (st'.map (mi_up (mi_ad av z)))) := by
            intro H1 locs1 hP1 _ hS1
            have hR1 : mi_R av z S cA dC dI (mi_w h r (.inr (ci, fs.set (q % 128) v))) s H1 := mi_R_w hR hS hS1 hzs (by simpa [mi_em, List.map_set] using hP1)
            have := k ls H1 locs1 (by rw [mi_w_len]; exact hz) hR1 hS1 hl
            simp only [hn] at this
            exact this
          simp only [List.map_cons, mi_up, mi_ad_ge h3]
          subst hci
          have hd : parseFieldDescriptor (T (q % 128)).2.2.1 = some (mi_ty q) := (cl3 _ hfl.1).1
          unfold mi_fin at hfi
          rw [hcl] at hfi
          simp only [Bool.or_eq_true, Bool.not_eq_true', Bool.and_eq_true, decide_eq_true_eq] at hfi
          cases hff : (T (q % 128)).2.2.2 with
          | false => exact va_put hx hb hts (mi_lays _ C T N hcl) (fun k => (mi_tys0.getD (q / 128) []).getD k .int) (fun k hk => (cl3 k hk).1) cl4 hown K.1 hR.2.1 (mi_wsD _ _ _ _) hS (r - 6) he hcl (q % 128) hfl.1 hlink (fun _ h => h) hff hd hft.1 hft.2 (by simpa using hlen) hdg hkk
          | true =>
            rcases hfi with q1 | ⟨q1, q2⟩
            · rw [hff] at q1; cases q1
            · exact va_putF hx hb hts (mi_lays _ C T N hcl) (fun k => (mi_tys0.getD (q / 128) []).getD k .int) (fun k hk => (cl3 k hk).1) cl4 hown K.1 hR.2.1 (mi_wsD _ _ _ _) hS (r - 6) he hcl (q % 128) hfl.1 hlink (fun _ h => h) hff (hini q1) q2 hd hft.1 hft.2 (by simpa using hlen) hdg hkk
        · cases hfl
      · cases hst
    · cases hst
  · cases hst
theorem mi_tyat {t : Nat} {ty : FieldType} (cA : Nat → ClassId) (h : (mi_tys cA)[t]? = some (cA t, ty)) : (mi_tys cA)[t]? = some (cA t, ty) := h
theorem mi_q_iald (X : mi_X cc own ini nL p s m args meth c) (K : mi_K av cA dC dI s) (hst : mi_iald S f h = some (f', h')) (hn : rp (f.1 + 1) = rp f.1 + 1) (hdg : decode cc (rp f.1) = .ok (.iaload, 1)) (k : mi_V p l e R s m args below meth c Q av z S cA dC dI nL rp h' f' cells slots) : mi_V p l e R s m args below meth c Q av z S cA dC dI nL rp h f cells slots := by
  intro ls H locs hz hR hS hl
  obtain ⟨hx, hb, hml, hown, hts, hini⟩ := X
  obtain ⟨pc, l0, st⟩ := f
  unfold mi_iald at hst
  split at hst
  · rename_i i r st' he
    simp only at he hl hdg hst hn
    subst he
    split at hst
    · rename_i hr
      subst hr
      split at hst
      · rename_i hix
        cases hst
        have := k ls H locs hz hR hS hl
        simp only [hn, List.map_cons, mi_up] at this
        simp only [List.map_cons, mi_up]
        obtain ⟨scr, h1, h2, h3, h4, h5⟩ := hR.1
        have hin := mi_ix_in hix
        have hlt : i.toNatClampNeg < S.1 := Nat.not_le.mp fun q => hin (Or.inr q)
        exact W.iald (v := .int (S.2 i.toNatClampNeg)) hx hb h1 h2 h3 (by rw [h4]; exact hin) (h5 _ hlt) rfl rfl hdg this
      · cases hst
    · split at hst
      · rename_i t n g hc
        split at hst
        · rename_i hh
          obtain ⟨rfl, hix⟩ := hh
          cases hst
          obtain ⟨h3, hcell⟩ := mi_c_of hc
          have he := mi_ws_get (ad := mi_ad av z) (cA := cA) (z := z) hcell
          have := k ls H locs hz hR hS hl
          simp only [hn, List.map_cons, mi_up] at this
          simp only [List.map_cons, mi_up, mi_ad_ge h3]
          exact va_iald hx hb K.1 hR.2.1 (r - 6) 0 he rfl (mi_ix_in hix) hdg this
        · cases hst
      · cases hst
  · cases hst
theorem mi_E_back {H : Heap} {locs : List Loc} (hE : mi_E av z S s H) (hS : va_S (fun q => z ≤ q) s.heap H locs) (hzs : z ≤ s.heap.size) : mi_E av z S s s.heap :=
  hE.kept (fun a _ hb => (hS.2.1 a (by omega) hb).symm)
theorem mi_ad_lt {av : Nat → Nat} {z k : Nat} (h : k < 6) : mi_ad av z k = av k := by
  unfold mi_ad
  rw [if_pos h]
theorem mi_q_ldc {i idx : Nat} (X : mi_X cc own ini nL p s m args meth c) (K : mi_K av cA dC dI s) (hi : i = 1 ∨ i = 2) {q : String × Nat × String} (hq : mi_strs[i - 1]? = some q) (h1 : q.1 = own) (h2 : q.2.1 = idx) (hst : mi_push (.ref i) f h = some (f', h')) (hn : rp (f.1 + 1) = rp f.1 + 2) (hdg : decode cc (rp f.1) = .ok (.ldc idx, 2)) (k : mi_V p l e R s m args below meth c Q av z S cA dC dI nL rp h' f' cells slots) : mi_V p l e R s m args below meth c Q av z S cA dC dI nL rp h f cells slots := by
  intro ls H locs hz hR hS hl
  obtain ⟨hx, hb, hml, hown, hts, -⟩ := X
  cases hst
  have hk := K.2.2.2 _ _ hq
  rw [h1, h2, show i - 1 + 1 = i by omega] at hk
  have := k ls H locs hz hR hS hl
  simp only [hn, List.map_cons, mi_up, mi_ad_lt (show i < 6 by rcases hi with e | e <;> (rw [e]; decide))] at this
  exact va_ldcS hx hb hown hk hdg this
theorem mi_q_gets {C n d : String} {v : Value} {idx : Nat} (X : mi_X cc own ini nL p s m args meth c) (hzs : z ≤ s.heap.size) (hZ : ∀ H, mi_E av z S s H → va_Z C n d (mi_up (mi_ad av z) v) (fun q => z ≤ q) s H) (hw : mi_has_w hint (.fieldLink own idx C n d) = true) (hst : mi_push v f h = some (f', h')) (hn : rp (f.1 + 1) = rp f.1 + 3) (hdg : decode cc (rp f.1) = .ok (.getstatic idx, 3)) (k : mi_V p l e R s m args below meth c Q av z S cA dC dI nL rp h' f' cells slots) : mi_V p l e R s m args below meth c Q av z S cA dC dI nL rp h f cells slots := by
  intro ls H locs hz hR hS hl
  obtain ⟨hx, hb, hml, hown, hts, -⟩ := X
  cases hst
  simp only [mi_has_w, Bool.and_eq_true, decide_eq_true_eq] at hw
  have := k ls H locs hz hR hS hl
  simp only [hn, List.map_cons] at this
  exact va_gets hx hb (hZ _ (mi_E_back hR.2.2.2 hS hzs)) hS hown (hts _ (mi_tbw hw.1 hw.2)) (fun _ h => h) hdg this
theorem mi_q_txt {q idx : Nat} (X : mi_X cc own ini nL p s m args meth c) (hzs : z ≤ s.heap.size) (hst : mi_txt (q % 128) f h = some (f', h')) (hn : rp (f.1 + 1) = rp f.1 + 3) (hfl : mi_fls own idx q hint = true) (hdg : decode cc (rp f.1) = .ok (.getfield idx, 3)) (k : mi_V p l e R s m args below meth c Q av z S cA dC dI nL rp h' f' cells slots) : mi_V p l e R s m args below meth c Q av z S cA dC dI nL rp h f cells slots := by
  intro ls H locs hz hR hS hl
  obtain ⟨hx, hb, hml, hown, hts, -⟩ := X
  obtain ⟨pc, l0, st⟩ := f
  have hE := mi_E_back hR.2.2.2 hS hzs
  unfold mi_txt at hst
  split at hst
  · rename_i r st' he
    simp only at he hl hdg hst hn
    subst he
    split at hst
    · rename_i hr
      unfold mi_fls at hfl
      simp only [Bool.or_eq_true, Bool.and_eq_true, decide_eq_true_eq, mi_has_w] at hfl
      rcases hfl with ⟨rfl, h1, h2⟩ | ⟨rfl, h1, h2⟩
      · rw [if_pos (by decide)] at hst
        cases hst
        have hlink := hts _ (mi_tbw h1 h2)
        have := k ls H locs hz hR hS hl
        simp only [hn, List.map_cons, mi_up, mi_ad_lt (show r + 2 < 6 by rcases hr with e | e <;> (rw [e]; decide))] at this
        simp only [List.map_cons, mi_up, mi_ad_lt (show r < 6 by rcases hr with e | e <;> (rw [e]; decide))]
        rcases hr with rfl | rfl
        · exact vk_getf hx hb (hE.1.1 0 (by decide)).2.2.1 hS hown hlink (fun _ h => h) hdg this
        · exact vk_getf hx hb (hE.1.1 1 (by decide)).2.2.1 hS hown hlink (fun _ h => h) hdg this
      · rw [if_neg (by decide), if_pos (by decide)] at hst
        cases hst
        have hlink := hts _ (mi_tbw h1 h2)
        have := k ls H locs hz hR hS hl
        simp only [hn, List.map_cons, mi_up] at this
        simp only [List.map_cons, mi_up, mi_ad_lt (show r < 6 by rcases hr with e | e <;> (rw [e]; decide))]
        rcases hr with rfl | rfl
        · exact vk_getf hx hb (hE.1.1 0 (by decide)).2.1 hS hown hlink (fun _ h => h) hdg this
        · exact vk_getf hx hb (hE.1.1 1 (by decide)).2.1 hS hown hlink (fun _ h => h) hdg this
    · cases hst
  · cases hst
theorem mi_q_bald (X : mi_X cc own ini nL p s m args meth c) (K : mi_K av cA dC dI s) (hzs : z ≤ s.heap.size) (hst : mi_bald f h = some (f', h')) (hn : rp (f.1 + 1) = rp f.1 + 1) (hdg : decode cc (rp f.1) = .ok (.baload, 1)) (k : mi_V p l e R s m args below meth c Q av z S cA dC dI nL rp h' f' cells slots) : mi_V p l e R s m args below meth c Q av z S cA dC dI nL rp h f cells slots := by
  intro ls H locs hz hR hS hl
  obtain ⟨hx, hb, hml, hown, hts, hini⟩ := X
  obtain ⟨pc, l0, st⟩ := f
  unfold mi_bald at hst
  split at hst
  · rename_i i r st' he
    simp only at he hl hdg hst hn
    subst he
    split at hst
    · rename_i hr
      split at hst
      · rename_i hix
        cases hst
        have hE := mi_E_back hR.2.2.2 hS hzs
        have := k ls H locs hz hR hS hl
        simp only [hn, List.map_cons, mi_up] at this
        simp only [List.map_cons, mi_up, mi_ad_lt (show r < 6 by rcases hr with e | e <;> (rw [e]; decide))]
        rcases hr with rfl | rfl
        · exact va_tb hx hb (hE.1.1 0 (by decide)).2.2.2 hS (mi_ix_in hix) rfl hdg this
        · exact va_tb hx hb (hE.1.1 1 (by decide)).2.2.2 hS (mi_ix_in hix) rfl hdg this
      · cases hst
    split at hst
    · rename_i t n g hc
      split at hst
      · rename_i hh
        obtain ⟨ht, hix⟩ := hh
        cases hst
        obtain ⟨h3, hcell⟩ := mi_c_of hc
        have he := mi_ws_get (ad := mi_ad av z) (cA := cA) (z := z) hcell
        have := k ls H locs hz hR hS hl
        simp only [hn, List.map_cons, mi_up] at this
        simp only [List.map_cons, mi_up, mi_ad_ge h3]
        rcases ht with rfl | rfl
        · exact va_bald hx hb K.1 hR.2.1 (r - 6) 1 he rfl (mi_ix_in hix) hdg this
        · exact va_zald hx hb K.1 hR.2.1 (r - 6) 2 he rfl (mi_ix_in hix) hdg this
      · cases hst
    · cases hst
  · cases hst
theorem mi_q_lald (X : mi_X cc own ini nL p s m args meth c) (K : mi_K av cA dC dI s) (hst : mi_lald f h = some (f', h')) (hn : rp (f.1 + 1) = rp f.1 + 1) (hdg : decode cc (rp f.1) = .ok (.laload, 1)) (k : mi_V p l e R s m args below meth c Q av z S cA dC dI nL rp h' f' cells slots) : mi_V p l e R s m args below meth c Q av z S cA dC dI nL rp h f cells slots := by
  intro ls H locs hz hR hS hl
  obtain ⟨hx, hb, hml, hown, hts, hini⟩ := X
  obtain ⟨pc, l0, st⟩ := f
  unfold mi_lald at hst
  split at hst
  · rename_i i r st' he
    simp only at he hl hdg hst hn
    subst he
    split at hst
    · rename_i t n g hc
      split at hst
      · rename_i hh
        obtain ⟨rfl, hix⟩ := hh
        cases hst
        obtain ⟨h3, hcell⟩ := mi_c_of hc
        have he := mi_ws_get (ad := mi_ad av z) (cA := cA) (z := z) hcell
        have := k ls H locs hz hR hS hl
        simp only [hn, List.map_cons, mi_up] at this
        simp only [List.map_cons, mi_up, mi_ad_ge h3]
        exact va_lald hx hb K.1 hR.2.1 (r - 6) 3 he rfl (mi_ix_in hix) hdg this
      · cases hst
    · cases hst
  · cases hst
theorem mi_q_aald (X : mi_X cc own ini nL p s m args meth c) (K : mi_K av cA dC dI s) (hst : mi_aald f h = some (f', h')) (hn : rp (f.1 + 1) = rp f.1 + 1) (hdg : decode cc (rp f.1) = .ok (.aaload, 1)) (k : mi_V p l e R s m args below meth c Q av z S cA dC dI nL rp h' f' cells slots) : mi_V p l e R s m args below meth c Q av z S cA dC dI nL rp h f cells slots := by
  intro ls H locs hz hR hS hl
  obtain ⟨hx, hb, hml, hown, hts, hini⟩ := X
  obtain ⟨pc, l0, st⟩ := f
  unfold mi_aald at hst
  split at hst
  · rename_i i r st' he
    simp only at he hl hdg hst hn
    subst he
    split at hst
    · rename_i t n g hc
      split at hst
      · rename_i hh
        obtain ⟨rfl, hix⟩ := hh
        split at hst
        · rename_i r2 hg
          cases hst
          obtain ⟨h3, hcell⟩ := mi_c_of hc
          have he := mi_ws_get (ad := mi_ad av z) (cA := cA) (z := z) hcell
          have := k ls H locs hz hR hS hl
          simp only [hn, List.map_cons, mi_up] at this
          simp only [List.map_cons, mi_up, mi_ad_ge h3]
          refine va_aldq hx hb K.1 hR.2.1 (r - 6) 4 he rfl (mi_ix_in hix) hdg ?_
          simp only [hg, Option.map_some]
          exact this
        · cases hst
      · cases hst
    · cases hst
  · cases hst
theorem mi_q_iast (X : mi_X cc own ini nL p s m args meth c) (K : mi_K av cA dC dI s) (hzs : z ≤ s.heap.size) (hst : mi_iast f h = some (f', h')) (hn : rp (f.1 + 1) = rp f.1 + 1) (hdg : decode cc (rp f.1) = .ok (.iastore, 1)) (k : mi_V p l e R s m args below meth c Q av z S cA dC dI nL rp h' f' cells slots) : mi_V p l e R s m args below meth c Q av z S cA dC dI nL rp h f cells slots := by
  intro ls H locs hz hR hS hl
  obtain ⟨hx, hb, hml, hown, hts, hini⟩ := X
  obtain ⟨pc, l0, st⟩ := f
  unfold mi_iast at hst
  split at hst
  · rename_i x i r st' he
    simp only at he hl hdg hst hn
    subst he
    split at hst
    · rename_i t n g hc
      split at hst
      · rename_i hh
        obtain ⟨rfl, hix⟩ := hh
        cases hst
        obtain ⟨h3, hcell⟩ := mi_c_of hc
        have he := mi_ws_get (ad := mi_ad av z) (cA := cA) (z := z) hcell
        simp only [List.map_cons, mi_up, mi_ad_ge h3]
        refine va_iast hx hb K.1 hR.2.1 (mi_wsD _ _ _ _) hS (r - 6) 0 he rfl (mi_ix_in hix) hdg fun H1 locs1 hP1 _ hS1 => ?_
        have := k ls H1 locs1 (by rw [mi_w_len]; exact hz) (mi_R_w hR hS hS1 hzs hP1) hS1 hl
        simp only [hn] at this
        exact this
      · cases hst
    · cases hst
  · cases hst
theorem mi_q_bast (X : mi_X cc own ini nL p s m args meth c) (K : mi_K av cA dC dI s) (hzs : z ≤ s.heap.size) (hst : mi_bast f h = some (f', h')) (hn : rp (f.1 + 1) = rp f.1 + 1) (hdg : decode cc (rp f.1) = .ok (.bastore, 1)) (k : mi_V p l e R s m args below meth c Q av z S cA dC dI nL rp h' f' cells slots) : mi_V p l e R s m args below meth c Q av z S cA dC dI nL rp h f cells slots := by
  intro ls H locs hz hR hS hl
  obtain ⟨hx, hb, hml, hown, hts, hini⟩ := X
  obtain ⟨pc, l0, st⟩ := f
  unfold mi_bast at hst
  split at hst
  · rename_i x i r st' he
    simp only at he hl hdg hst hn
    subst he
    split at hst
    · rename_i t n g hc
      split at hst
      · rename_i hix
        obtain ⟨h3, hcell⟩ := mi_c_of hc
        have he := mi_ws_get (ad := mi_ad av z) (cA := cA) (z := z) hcell
        simp only [List.map_cons, mi_up, mi_ad_ge h3]
        split at hst
        · rename_i ht
          subst ht
          cases hst
          refine va_bast hx hb K.1 hR.2.1 (mi_wsD _ _ _ _) hS (r - 6) 1 he rfl (mi_ix_in hix) hdg fun H1 locs1 hP1 _ hS1 => ?_
          have := k ls H1 locs1 (by rw [mi_w_len]; exact hz) (mi_R_w hR hS hS1 hzs hP1) hS1 hl
          simp only [hn] at this
          exact this
        · split at hst
          · rename_i ht
            subst ht
            cases hst
            refine va_zast hx hb K.1 hR.2.1 (mi_wsD _ _ _ _) hS (r - 6) 2 he rfl (mi_ix_in hix) hdg fun H1 locs1 hP1 _ hS1 => ?_
            have := k ls H1 locs1 (by rw [mi_w_len]; exact hz) (mi_R_w hR hS hS1 hzs hP1) hS1 hl
            simp only [hn] at this
            exact this
          · cases hst
      · cases hst
    · cases hst
  · cases hst
theorem mi_q_last (X : mi_X cc own ini nL p s m args meth c) (K : mi_K av cA dC dI s) (hzs : z ≤ s.heap.size) (hst : mi_last f h = some (f', h')) (hn : rp (f.1 + 1) = rp f.1 + 1) (hdg : decode cc (rp f.1) = .ok (.lastore, 1)) (k : mi_V p l e R s m args below meth c Q av z S cA dC dI nL rp h' f' cells slots) : mi_V p l e R s m args below meth c Q av z S cA dC dI nL rp h f cells slots := by
  intro ls H locs hz hR hS hl
  obtain ⟨hx, hb, hml, hown, hts, hini⟩ := X
  obtain ⟨pc, l0, st⟩ := f
  unfold mi_last at hst
  split at hst
  · rename_i x i r st' he
    simp only at he hl hdg hst hn
    subst he
    split at hst
    · rename_i t n g hc
      split at hst
      · rename_i hh
        obtain ⟨rfl, hix⟩ := hh
        cases hst
        obtain ⟨h3, hcell⟩ := mi_c_of hc
        have he := mi_ws_get (ad := mi_ad av z) (cA := cA) (z := z) hcell
        simp only [List.map_cons, mi_up, mi_ad_ge h3]
        refine va_last hx hb K.1 hR.2.1 (mi_wsD _ _ _ _) hS (r - 6) 3 he rfl (mi_ix_in hix) hdg fun H1 locs1 hP1 _ hS1 => ?_
        have := k ls H1 locs1 (by rw [mi_w_len]; exact hz) (mi_R_w hR hS hS1 hzs hP1) hS1 hl
        simp only [hn] at this
        exact this
      · cases hst
    · cases hst
  · cases hst
theorem mi_now_cl : ∃ T N, mcl[mi_now]? = some ("AviaryLock$Now", T, N) := ⟨_, _, rfl⟩
theorem mi_q_aast (X : mi_X cc own ini nL p s m args meth c) (K : mi_K av cA dC dI s) (hzs : z ≤ s.heap.size) (hst : mi_aast f h = some (f', h')) (hn : rp (f.1 + 1) = rp f.1 + 1) (hdg : decode cc (rp f.1) = .ok (.aastore, 1)) (k : mi_V p l e R s m args below meth c Q av z S cA dC dI nL rp h' f' cells slots) : mi_V p l e R s m args below meth c Q av z S cA dC dI nL rp h f cells slots := by
  intro ls H locs hz hR hS hl
  obtain ⟨hx, hb, hml, hown, hts, hini⟩ := X
  obtain ⟨pc, l0, st⟩ := f
  unfold mi_aast at hst
  split at hst
  · rename_i v i r st' he
    simp only at he hl hdg hst hn
    subst he
    split at hst
    · rename_i t n g cj fj hc hc2
      split at hst
      · rename_i hh
        obtain ⟨rfl, hix, rfl⟩ := hh
        cases hst
        obtain ⟨h3, hcell⟩ := mi_c_of hc
        obtain ⟨h32, hcell2⟩ := mi_c_of hc2
        have he := mi_ws_get (ad := mi_ad av z) (cA := cA) (z := z) hcell
        have he2 := mi_ws_get (ad := mi_ad av z) (cA := cA) (z := z) hcell2
        obtain ⟨T, N, hcl⟩ := mi_now_cl
        simp only [List.map_cons, mi_up, mi_ad_ge h3, mi_ad_ge h32]
        refine va_astq hx hb K.1 hR.2.1 (mi_wsD _ _ _ _) hS (r - 6) 4 (v - 6) mi_now he (r := ("AviaryLock$Now", T, N)) rfl he2 hcl (mi_ix_in hix) hdg fun H1 locs1 hP1 _ hS1 => ?_
        have e1 : (fun j => (va_up g i.toNatClampNeg (some v) j).map (mi_ad av z)) = va_up (fun j => (g j).map (mi_ad av z)) i.toNatClampNeg (some (z + (v - 6))) := by
          funext j
          by_cases hj : j = i.toNatClampNeg
          · simp [va_up, hj, mi_ad_ge h32]
          · simp [va_up, hj]
        have hR1 : mi_R av z S cA dC dI (mi_w h r (.inl (4, n, .inr (.inr (va_up g i.toNatClampNeg (some v)))))) s H1 := mi_R_w hR hS hS1 hzs (by
          simp only [mi_em]
          rw [e1]
          exact hP1)
        have := k ls H1 locs1 (by rw [mi_w_len]; exact hz) hR1 hS1 hl
        simp only [hn] at this
        exact this
      · cases hst
    · cases hst
  · cases hst
theorem mi_q_alen (X : mi_X cc own ini nL p s m args meth c) (K : mi_K av cA dC dI s) (hzs : z ≤ s.heap.size) (hst : mi_alen S f h = some (f', h')) (hn : rp (f.1 + 1) = rp f.1 + 1) (hdg : decode cc (rp f.1) = .ok (.arraylength, 1)) (k : mi_V p l e R s m args below meth c Q av z S cA dC dI nL rp h' f' cells slots) : mi_V p l e R s m args below meth c Q av z S cA dC dI nL rp h f cells slots := by
  intro ls H locs hz hR hS hl
  obtain ⟨hx, hb, hml, hown, hts, hini⟩ := X
  obtain ⟨pc, l0, st⟩ := f
  unfold mi_alen at hst
  split at hst
  · rename_i r st' he
    simp only at he hl hdg hst hn
    subst he
    split at hst
    · rename_i hr
      subst hr
      cases hst
      have := k ls H locs hz hR hS hl
      simp only [hn, List.map_cons, mi_up] at this
      simp only [List.map_cons, mi_up]
      obtain ⟨scr, h1, h2, h3, h4, h5⟩ := hR.1
      exact W.alen (n := Int32.ofNat S.1) hx hb h1 h2 (by rw [h4] <;> rfl) rfl rfl hdg this
    split at hst
    · rename_i hr
      cases hst
      have hE := mi_E_back hR.2.2.2 hS hzs
      have := k ls H locs hz hR hS hl
      simp only [hn, List.map_cons, mi_up] at this
      simp only [List.map_cons, mi_up, mi_ad_lt (show r < 6 by rcases hr with e | e <;> (rw [e]; decide))]
      rcases hr with rfl | rfl
      · exact va_tlen hx hb (hE.1.1 0 (by decide)).2.2.2 hS rfl hdg this
      · exact va_tlen hx hb (hE.1.1 1 (by decide)).2.2.2 hS rfl hdg this
    · split at hst
      · rename_i t n g hc
        split at hst
        · rename_i ht
          cases hst
          obtain ⟨h3, hcell⟩ := mi_c_of hc
          have he := mi_ws_get (ad := mi_ad av z) (cA := cA) (z := z) hcell
          have := k ls H locs hz hR hS hl
          simp only [hn, List.map_cons, mi_up] at this
          simp only [List.map_cons, mi_up, mi_ad_ge h3]
          obtain ⟨ty, hty⟩ : ∃ ty, (mi_tys cA)[t]? = some (cA t, ty) := by
            match t, ht with
            | 0, _ => exact ⟨_, rfl⟩
            | 1, _ => exact ⟨_, rfl⟩
            | 2, _ => exact ⟨_, rfl⟩
            | 3, _ => exact ⟨_, rfl⟩
            | 4, _ => exact ⟨_, rfl⟩
            | n + 5, h => omega
          rcases g with g | g | g
          · exact va_alen hx hb K.1 hR.2.1 (r - 6) t he hty rfl hdg this
          · exact va_alen hx hb K.1 hR.2.1 (r - 6) t he hty rfl hdg this
          · exact va_alen hx hb K.1 hR.2.1 (r - 6) t he hty rfl hdg this
        · cases hst
      · cases hst
  · cases hst
end MIH
