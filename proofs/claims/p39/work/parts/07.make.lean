/-! cells are made; Object's constructor; System.arraycopy -/
theorem mi_w_oi : Cond.instanceMethod Lib.objectInit ∈ mi_tb := mi_tbw (i := 128) (by decide +kernel) rfl
theorem mi_w_oc : Cond.code Lib.objectInit ⟨#[0xb1]⟩ 1 none ∈ mi_tb := mi_tbw (i := 129) (by decide +kernel) rfl
theorem mi_w_an : Cond.native arraycopyName ∈ mi_tb := mi_tbw (i := 883) (by decide +kernel) rfl
theorem mi_w_as : Cond.static arraycopyName ∈ mi_tb := mi_tbw (i := 882) (by decide +kernel) rfl
theorem mi_w_ai : Cond.initialized "java/lang/System" ∈ mi_tb := mi_tbw (i := 121) (by decide +kernel) rfl
theorem mi_w_mi : Cond.initialized "java/lang/Math" ∈ mi_tb := mi_tbw (i := 115) (by decide +kernel) rfl
theorem mi_w_xs : Cond.static Lib.Math.max.name ∈ mi_tb := mi_tbw (i := 744) (by decide +kernel) rfl
theorem mi_w_xc : Cond.code Lib.Math.max.name Lib.Math.max.code 2 (some .int) ∈ mi_tb := mi_tbw (i := 745) (by decide +kernel) rfl
theorem mi_w_ns : Cond.static Lib.Math.min.name ∈ mi_tb := mi_tbw (i := 658) (by decide +kernel) rfl
theorem mi_w_nc : Cond.code Lib.Math.min.name Lib.Math.min.code 2 (some .int) ∈ mi_tb := mi_tbw (i := 659) (by decide +kernel) rfl
def mi_ins_pos : List (Nat × Nat) := [(123, 101), (131, 102), (137, 103), (143, 104), (187, 105), (287, 106), (344, 107), (351, 108), (444, 109), (480, 110), (531, 111), (538, 112), (1376, 113)]
theorem mi_ins_ok : (List.range 13).all (fun i => match mcl[i]? with
    | some (C, _, N) => decide (lw_tbl[(mi_ins_pos.getD i (0, 0)).1]? = some (.instantiable C N)) && decide (lw_tbl[(mi_ins_pos.getD i (0, 0)).2]? = some (.initialized C))
    | none => false) = true := by decide +kernel
theorem mi_ins {ci : Nat} {C : String} {T : u_T} {N : Nat} (hc : mcl[ci]? = some (C, T, N)) : Cond.instantiable C N ∈ mi_tb ∧ Cond.initialized C ∈ mi_tb := by
  have hlt : ci < 13 := by
    have := (List.getElem?_eq_some_iff.mp hc).1
    rw [mi_mcl_len] at this
    exact this
  have h1 := List.all_eq_true.mp mi_ins_ok ci (List.mem_range.mpr hlt)
  simp only [hc, Bool.and_eq_true, decide_eq_true_eq] at h1
  exact ⟨mi_tbw h1.1 rfl, mi_tbw h1.2 rfl⟩
theorem mi_fresh {ad : Nat → Nat} {cA : Nat → ClassId} {z q : Nat} {h : mH} {x : va_E} (hD : va_D (fun q => z ≤ q) (mi_ws ad cA z h ++ [(q, x)])) : z + h.length ≤ q := by
  have hlen : (mi_ws ad cA z h).length = h.length := by simp [mi_ws]
  have h1 : (mi_ws ad cA z h ++ [(q, x)])[h.length]? = some (q, x) := by rw [← hlen]; simp
  have h2 : z ≤ q := hD.2 _ _ h1
  rcases Nat.lt_or_ge q (z + h.length) with hq | hq
  · obtain ⟨c, hc⟩ : ∃ c, h[q - z]? = some c := ⟨h[q - z], List.getElem?_eq_getElem (by omega)⟩
    have h3 : (mi_ws ad cA z h ++ [(q, x)])[q - z]? = some (z + (q - z), mi_em ad cA c) := by
      rw [List.getElem?_append_left (by omega)]
      exact mi_ws_get hc
    have h4 := hD.1 _ _ _ _ h3 h1 (by simp only; omega)
    omega
  · exact hq
theorem mi_RA_eq {s : State} {a b : ClassId} {ty : FieldType} (ha : va_RA s a ty) (hb : va_RA s b ty) : b = a := by
  cases ty with
  | object C =>
    obtain ⟨_, _, _, _, _, h1⟩ := ha
    obtain ⟨_, _, _, _, _, h2⟩ := hb
    exact Option.some.inj (h2.symm.trans h1)
  | _ => exact Option.some.inj (Eq.trans (Eq.symm hb) ha)
section MIM
variable {p : Program} {l : Launch} {e : Env} {R : Room} {s : State} {m : MethodId} {args : Array Value} {below : List Frame} {meth : Method} {c : Code} {cells slots : Nat} {Q : State → Prop}
variable {av : Nat → Nat} {z : Nat} {S : Nat × (Nat → Int32)} {cA dC : Nat → ClassId} {dI : Nat → Nat → Nat}
variable {cc : ByteArray} {own : String} {ini : Bool} {nL : Nat} {rp : Nat → Nat} {hint len : Nat} {ri : Instr} {h h' : mH} {f f' : mF}
theorem mi_toNat {x : Int32} (h : 0 ≤ x.toInt) : ¬ x < 0 := by
  rw [Int32.lt_iff_toInt_lt, Int32.toInt_zero]
  omega
theorem mi_clamp (x : Int32) : x.toNatClampNeg = x.toInt.toNat := rfl
/-- behind a making: where the new cell lies, and what follows -/
theorem mi_made {cell : mC} {q pc' : Nat} {ls : Array Slot} {l0 : List (Nat × Value)} {st' : List Value} {H H1 : Heap} {locs : List Loc} {n1 : Nat} (hz : s.heap.size + cells = z + h.length) (hzs : z ≤ s.heap.size) (hR : mi_R av z S cA dC dI h s H) (hS : va_S (fun q => z ≤ q) s.heap H locs) (hP1 : va_P (dC, dI) mcl (mi_ws (mi_ad av z) cA z h ++ [(q, mi_em (mi_ad av z) cA cell)]) H1) (hD1 : va_D (fun q => z ≤ q) (mi_ws (mi_ad av z) cA z h ++ [(q, mi_em (mi_ad av z) cA cell)])) (hS1 : va_S (fun q => z ≤ q) s.heap H1 locs) (hl : lv_has ls nL (mi_ul (mi_ad av z) l0)) (hn1 : mi_csz cell = n1)
    (k : ∀ cells' slots', cells' + h.length = cells + (h ++ [cell]).length → slots' + mi_sz h = slots + mi_sz (h ++ [cell]) → mi_V p l e R s m args below meth c Q av z S cA dC dI nL rp (h ++ [cell]) (pc', l0, .ref (h.length + 6) :: st') cells' slots') : W p l e R s m args below meth c H1 locs (cells + 1) (slots + n1) Q (F0 m (rp pc') ls (.ref q :: st'.map (mi_up (mi_ad av z)))) := by
  intro T hT XT
  have h1 := XT.heapSize
  rw [hT] at h1
  have hlen : (mi_ws (mi_ad av z) cA z h).length = h.length := by simp [mi_ws]
  have h2 : q < H1.size := (hP1 h.length (q, mi_em (mi_ad av z) cA cell) (by rw [← hlen]; simp)).lt
  have h3 := mi_fresh hD1
  have hq : q = z + h.length := by omega
  subst hq
  have := k (cells + 1) (slots + n1) (by simp; omega) (by rw [mi_sz_app]; omega) ls H1 locs (by simp; omega) (mi_R_a hR hS hS1 hzs hP1) hS1 hl
  simp only [List.map_cons, mi_up] at this
  rw [show mi_ad av z (h.length + 6) = z + h.length from by rw [mi_ad_ge (by omega)]; omega] at this
  exact this T hT XT
theorem mi_q_newa {t : ArrayType} (X : mi_X cc own ini nL p s m args meth c) (K : mi_K av cA dC dI s) (hzs : z ≤ s.heap.size) (hst : mi_newa t f h = some (f', h')) (hn : rp (f.1 + 1) = rp f.1 + 2) (hw : mi_has_w hint (.arrayClass (newarray.typeOf t)) = true) (hdg : decode cc (rp f.1) = .ok (.newarray t, 2)) (hc1 : cells + h'.length ≤ R.cells + h.length) (hc2 : slots + mi_sz h' ≤ R.slots + mi_sz h) (k : ∀ cells' slots', cells' + h.length = cells + h'.length → slots' + mi_sz h = slots + mi_sz h' → mi_V p l e R s m args below meth c Q av z S cA dC dI nL rp h' f' cells' slots') : mi_V p l e R s m args below meth c Q av z S cA dC dI nL rp h f cells slots := by
  intro ls H locs hz hR hS hl
  obtain ⟨hx, hb, hml, hown, hts, hini⟩ := X
  obtain ⟨pc, l0, st⟩ := f
  simp only [mi_has_w, Bool.and_eq_true, decide_eq_true_eq] at hw
  have harr := hts _ (mi_tbw hw.1 hw.2)
  unfold mi_newa at hst
  split at hst
  · rename_i n st' he
    simp only at he hl hdg hst hn
    subst he
    split at hst
    · rename_i hh
      split at hst
      · rename_i cell hbl
        cases hst
        simp only [List.length_append, List.length_singleton, mi_sz_app] at hc1 hc2
        simp only [List.map_cons, mi_up]
        have hA : ∀ q, s.heap.size ≤ q → (fun q => z ≤ q) q := fun q hq => Nat.le_trans hzs hq
        have hN : n.toNatClampNeg ≤ 10000 := by rw [mi_clamp]; omega
        have key : ∀ (t0 : Nat) (ty : FieldType) (a0 : vp_A), newarray.typeOf t = ty → (∀ cA : ClassId, vp_cell cA a0 = arrV cA n.toNatClampNeg (fun _ => defaultValue ty)) → (mi_tys cA)[t0]? = some (cA t0, ty) → mi_em (mi_ad av z) cA cell = .inl (cA t0, a0) → mi_csz cell = n.toNatClampNeg → componentBytes ty ≤ 8 → W p l e R s m args below meth c H locs cells slots Q (F0 m (rp pc) ls (.int n :: st'.map (mi_up (mi_ad av z)))) := by
          intro t0 ty a0 hty ha htt hem hcz hcb
          rw [hcz] at hc2
          refine va_newa hx hb harr hty K.1 hR.2.1 (mi_wsD _ _ _ _) hS hA ha (mi_toNat hh.1) rfl (Nat.le_trans (Nat.mul_le_mul hN hcb) (by decide)) (by omega) (by omega) hdg fun q cB H1 hK1 hP1 hD1 hS1 => ?_
          have hcB : cB = cA t0 := mi_RA_eq (K.1.2 t0 _ htt).2 (hK1.2 (mi_tys cA).length (cB, ty) (by simp)).2
          subst hcB
          rw [← hem] at hP1 hD1
          rw [← hn]
          exact mi_made hz hzs hR hS hP1 hD1 hS1 hl hcz k
        cases t with
        | int => cases hbl; exact key 0 .int (n.toNatClampNeg, .inl (fun _ => 0)) rfl (fun _ => rfl) rfl rfl rfl (by decide)
        | byte => cases hbl; exact key 1 .byte (n.toNatClampNeg, .inl (fun _ => 0)) rfl (fun _ => rfl) rfl rfl rfl (by decide)
        | boolean => cases hbl; exact key 2 .boolean (n.toNatClampNeg, .inl (fun _ => 0)) rfl (fun _ => rfl) rfl rfl rfl (by decide)
        | long => cases hbl; exact key 3 .long (n.toNatClampNeg, .inr (.inl (fun _ => 0))) rfl (fun _ => rfl) rfl rfl rfl (by decide)
        | _ => cases hbl
      · cases hst
    · cases hst
  · cases hst
theorem mi_q_newq {ci idx : Nat} (X : mi_X cc own ini nL p s m args meth c) (K : mi_K av cA dC dI s) (hzs : z ≤ s.heap.size) (hst : mi_newq ci f h = some (f', h')) (hn : rp (f.1 + 1) = rp f.1 + 3) (hw : mi_has_w hint (.classLink own idx "AviaryLock$Now") = true) (hdg : decode cc (rp f.1) = .ok (.anewarray idx, 3)) (hc1 : cells + h'.length ≤ R.cells + h.length) (hc2 : slots + mi_sz h' ≤ R.slots + mi_sz h) (k : ∀ cells' slots', cells' + h.length = cells + h'.length → slots' + mi_sz h = slots + mi_sz h' → mi_V p l e R s m args below meth c Q av z S cA dC dI nL rp h' f' cells' slots') : mi_V p l e R s m args below meth c Q av z S cA dC dI nL rp h f cells slots := by
  intro ls H locs hz hR hS hl
  obtain ⟨hx, hb, hml, hown, hts, hini⟩ := X
  obtain ⟨pc, l0, st⟩ := f
  simp only [mi_has_w, Bool.and_eq_true, decide_eq_true_eq] at hw
  have hlink := hts _ (mi_tbw hw.1 hw.2)
  unfold mi_newq at hst
  split at hst
  · rename_i n st' he
    simp only at he hl hdg hst hn
    subst he
    split at hst
    · rename_i hh
      cases hst
      simp only [List.length_append, List.length_singleton, mi_sz_app, mi_csz] at hc1 hc2
      simp only [List.map_cons, mi_up]
      have hA : ∀ q, s.heap.size ≤ q → (fun q => z ≤ q) q := fun q hq => Nat.le_trans hzs hq
      have hN : n.toNatClampNeg ≤ 10000 := by rw [mi_clamp]; omega
      refine va_newq hx hb hown hlink K.2.2.1 K.1 hR.2.1 (mi_wsD _ _ _ _) hS hA (mi_toNat hh.1) rfl (Nat.le_trans (Nat.mul_le_mul hN (Nat.le_refl 4)) (by decide)) (by omega) (by omega) hdg fun q cB H1 hK1 hP1 hD1 hS1 => ?_
      have hcB : cB = cA 4 := mi_RA_eq (K.1.2 4 _ rfl).2 (hK1.2 (mi_tys cA).length (cB, .object "AviaryLock$Now") (by simp)).2
      subst hcB
      rw [← hn]
      exact mi_made (cell := .inl (4, n.toNatClampNeg, .inr (.inr (fun _ => none)))) hz hzs hR hS hP1 hD1 hS1 hl rfl k
    · cases hst
  · cases hst
theorem mi_q_new {ci idx : Nat} {C : String} {T : u_T} {N : Nat} (X : mi_X cc own ini nL p s m args meth c) (K : mi_K av cA dC dI s) (hzs : z ≤ s.heap.size) (hst : mi_new ci f h = some (f', h')) (hn : rp (f.1 + 1) = rp f.1 + 3) (hcl : mcl[ci]? = some (C, T, N)) (hw : mi_has_w hint (.classLink own idx C) = true) (hdg : decode cc (rp f.1) = .ok (.new idx, 3)) (hc1 : cells + h'.length ≤ R.cells + h.length) (hc2 : slots + mi_sz h' ≤ R.slots + mi_sz h) (k : ∀ cells' slots', cells' + h.length = cells + h'.length → slots' + mi_sz h = slots + mi_sz h' → mi_V p l e R s m args below meth c Q av z S cA dC dI nL rp h' f' cells' slots') : mi_V p l e R s m args below meth c Q av z S cA dC dI nL rp h f cells slots := by
  intro ls H locs hz hR hS hl
  obtain ⟨hx, hb, hml, hown, hts, hini⟩ := X
  obtain ⟨pc, l0, st⟩ := f
  simp only [mi_has_w, Bool.and_eq_true, decide_eq_true_eq] at hw
  have hlink := hts _ (mi_tbw hw.1 hw.2)
  obtain ⟨hi1, hi2⟩ := mi_ins hcl
  obtain ⟨cl1, cl2, cl3, cl4⟩ := mi_cls hcl
  unfold mi_new at hst
  split at hst
  · rename_i fs hfs
    simp only at hl hdg hst hn
    cases hst
    have hfs2 : mi_dfl0.getD ci [] = fs := by simp [List.getD_eq_getElem?_getD, hfs]
    rw [hfs2] at cl2 cl3
    simp only [List.length_append, List.length_singleton, mi_sz_app, mi_csz] at hc1 hc2
    have hA : ∀ q, s.heap.size ≤ q → (fun q => z ≤ q) q := fun q hq => Nat.le_trans hzs hq
    have hup : fs.map (mi_up (mi_ad av z)) = fs := by
      have hall : ∀ v ∈ fs, mi_up (mi_ad av z) v = v := by
        intro v hv
        obtain ⟨j, hj⟩ := List.getElem?_of_mem hv
        have hjl : j < N := by rw [← cl2]; exact (List.getElem?_eq_some_iff.mp hj).1
        have h1 := (cl3 j hjl).2
        rw [show fs.getD j .null = v by simp [List.getD_eq_getElem?_getD, hj]] at h1
        rw [← h1]
        cases (mi_tys0.getD ci []).getD j FieldType.int <;> rfl
      exact (List.map_congr_left hall).trans (List.map_id fs)
    refine va_new hx hb hts (mi_lays _ C T N hcl) (fun k => (mi_tys0.getD ci []).getD k .int) (fun k hk => (cl3 k hk).1) hown hlink (hts _ hi1) (hts _ hi2) K.1 hR.2.1 (mi_wsD _ _ _ _) hS hA hcl (fs := fs) (fun j hj => (cl3 j hj).2) (by omega) (by omega) hdg fun q H1 hP1 hD1 hS1 => ?_
    rw [← hn]
    exact mi_made (cell := .inr (ci, fs)) hz hzs hR hS (by simpa only [mi_em, hup] using hP1) (by simpa only [mi_em, hup] using hD1) hS1 hl cl2 k
  · cases hst
theorem mi_catsum (ad : Nat → Nat) (st : List Value) : ((st.map (mi_up ad)).map fun v => v.category).sum = (st.map fun v => v.category).sum := by
  rw [List.map_map]
  congr 1
  apply List.map_congr_left
  intro v _
  exact mi_up_cat ad v
theorem mi_q_obj {idx : Nat} (X : mi_X cc own ini nL p s m args meth c) (hst : mi_obj f h = some (f', h')) (hn : rp (f.1 + 1) = rp f.1 + 3) (hw : mi_has_w hint (.methodLink own idx Lib.objectInit) = true) (hdg : decode cc (rp f.1) = .ok (.invokespecial idx, 3)) (hf : 1 ≤ R.frames) (hlo : 64 ≤ R.locals) (k : mi_V p l e R s m args below meth c Q av z S cA dC dI nL rp h' f' cells slots) : mi_V p l e R s m args below meth c Q av z S cA dC dI nL rp h f cells slots := by
  intro ls H locs hz hR hS hl
  obtain ⟨hx, hb, hml, hown, hts, hini⟩ := X
  obtain ⟨pc, l0, st⟩ := f
  simp only [mi_has_w, Bool.and_eq_true, decide_eq_true_eq] at hw
  have hlink := hts _ (mi_tbw hw.1 hw.2)
  unfold mi_obj at hst
  split at hst
  · rename_i r st' he
    simp only at he hl hdg hst hn
    subst he
    split at hst
    · rename_i hh
      cases hst
      simp only [List.map_cons, mi_up]
      have := k ls H locs hz hR hS hl
      simp only [hn] at this
      exact W.objInit hx hb hown hlink (hts _ mi_w_oi) (hts _ mi_w_oc) rfl (hl.1.trans hml.symm) rfl hdg hf (by rw [mi_catsum]; show 2 * 0 + _ + 12 ≤ _; omega) this
    · cases hst
  · cases hst
theorem mi_q_copy {idx : Nat} (X : mi_X cc own ini nL p s m args meth c) (K : mi_K av cA dC dI s) (hzs : z ≤ s.heap.size) (hst : mi_copy f h = some (f', h')) (hn : rp (f.1 + 1) = rp f.1 + 3) (hw : mi_has_w hint (.methodLink own idx arraycopyName) = true) (hdg : decode cc (rp f.1) = .ok (.invokestatic idx, 3)) (hf : 1 ≤ R.frames) (hlo : 64 ≤ R.locals) (k : mi_V p l e R s m args below meth c Q av z S cA dC dI nL rp h' f' cells slots) : mi_V p l e R s m args below meth c Q av z S cA dC dI nL rp h f cells slots := by
  intro ls H locs hz hR hS hl
  obtain ⟨hx, hb, hml, hown, hts, hini⟩ := X
  obtain ⟨pc, l0, st⟩ := f
  simp only [mi_has_w, Bool.and_eq_true, decide_eq_true_eq] at hw
  have hlink := hts _ (mi_tbw hw.1 hw.2)
  unfold mi_copy at hst
  split at hst
  · rename_i n dp r sp r0 st' he
    simp only at he hl hdg hst hn
    subst he
    split at hst
    · rename_i t0 n0 f0 t n1 g hc0 hc
      split at hst
      · rename_i hh
        obtain ⟨rfl, rfl, q1, q2, q3, q4, q5, q6⟩ := hh
        cases hst
        obtain ⟨h3, hcell⟩ := mi_c_of hc
        obtain ⟨h30, hcell0⟩ := mi_c_of hc0
        have he := mi_ws_get (ad := mi_ad av z) (cA := cA) (z := z) hcell
        have he0 := mi_ws_get (ad := mi_ad av z) (cA := cA) (z := z) hcell0
        simp only [List.map_cons, mi_up, mi_ad_ge h3, mi_ad_ge h30]
        refine va_copyi hx hb (hml.trans hl.1.symm) hown hlink (hts _ mi_w_an) (hts _ mi_w_as) (hts _ mi_w_ai) K.1 hR.2.1 (mi_wsD _ _ _ _) hS (r0 - 6) (r - 6) 0 0 (ty := .int) he0 he rfl rfl rfl (mi_toNat q3) (mi_toNat q2) (mi_toNat q1) (by rw [mi_clamp, mi_clamp]; omega) (by rw [mi_clamp, mi_clamp]; omega) (fun _ _ => rfl) hf (by rw [mi_catsum]; show _ + (7 + 11) ≤ _; omega) hdg fun H1 locs1 hP1 _ hS1 => ?_
        have := k ls H1 locs1 (by rw [mi_w_len]; exact hz) (mi_R_w hR hS hS1 hzs hP1) hS1 hl
        simp only [hn] at this
        exact this
      · cases hst
    · cases hst
  · cases hst
theorem mi_q_mm {g : Int32 → Int32 → Int32} (hst : mi_mm g f h = some (f', h')) (hn : rp (f.1 + 1) = rp f.1 + 3)
    (row : ∀ (H : Heap) (locs : List Loc) (ls : Array Slot) (rest : List Value) (x y : Int32), ls.size = nL → (rest.map fun v => v.category).sum ≤ 8 → W p l e R s m args below meth c H locs cells slots Q (F0 m (rp f.1 + 3) ls (.int (g x y) :: rest)) → W p l e R s m args below meth c H locs cells slots Q (F0 m (rp f.1) ls (.int y :: .int x :: rest)))
    (k : mi_V p l e R s m args below meth c Q av z S cA dC dI nL rp h' f' cells slots) : mi_V p l e R s m args below meth c Q av z S cA dC dI nL rp h f cells slots := by
  intro ls H locs hz hR hS hl
  obtain ⟨pc, l0, st⟩ := f
  unfold mi_mm at hst
  split at hst
  · rename_i y x st' he
    simp only at he hn row
    subst he
    split at hst
    · rename_i hr
      cases hst
      refine row H locs ls _ x y hl.1 (by rw [mi_catsum]; exact hr) ?_
      have := k ls H locs hz hR hS hl
      simp only [hn] at this
      exact this
    · cases hst
  · cases hst
end MIM
