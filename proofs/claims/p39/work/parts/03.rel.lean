/-! the mini machine's cells and values, and the machine's own -/
def mi_ad (av : Nat → Nat) (z k : Nat) : Nat := if k < 6 then av k else z + (k - 6)
def mi_up (ad : Nat → Nat) : Value → Value
  | .ref k => .ref (ad k)
  | v => v
theorem mi_up_cat (ad : Nat → Nat) (v : Value) : (mi_up ad v).category = v.category := by cases v <;> rfl
def mi_ul (ad : Nat → Nat) (l : List (Nat × Value)) : List (Nat × Value) := l.map (fun q => (q.1, mi_up ad q.2))
def mi_em (ad : Nat → Nat) (cA : Nat → ClassId) : mC → va_E
  | .inl (t, n, .inl f) => .inl (cA t, n, .inl f)
  | .inl (t, n, .inr (.inl f)) => .inl (cA t, n, .inr (.inl f))
  | .inl (t, n, .inr (.inr f)) => .inl (cA t, n, .inr (.inr (.inr (.inr (fun j => (f j).map ad)))))
  | .inr (ci, fs) => .inr (ci, fs.map (mi_up ad))
def mi_ws (ad : Nat → Nat) (cA : Nat → ClassId) (z : Nat) (h : mH) : va_W := h.mapIdx (fun k c => (z + k, mi_em ad cA c))
theorem mi_ws_get {ad : Nat → Nat} {cA : Nat → ClassId} {z k : Nat} {h : mH} {c : mC} (hk : h[k]? = some c) : (mi_ws ad cA z h)[k]? = some (z + k, mi_em ad cA c) := by
  simp [mi_ws, List.getElem?_mapIdx, hk]
theorem mi_ws_of {ad : Nat → Nat} {cA : Nat → ClassId} {z k : Nat} {h : mH} {q : Nat × va_E} (hk : (mi_ws ad cA z h)[k]? = some q) : q.1 = z + k := by
  simp only [mi_ws, List.getElem?_mapIdx] at hk
  cases hc : h[k]? with
  | none => rw [hc] at hk; cases hk
  | some c => rw [hc] at hk; cases hk; rfl
theorem mi_ws_set (ad : Nat → Nat) (cA : Nat → ClassId) (z k : Nat) (h : mH) (c : mC) : mi_ws ad cA z (h.set k c) = (mi_ws ad cA z h).set k (z + k, mi_em ad cA c) := by
  apply List.ext_getElem?
  intro i
  simp only [mi_ws, List.getElem?_mapIdx, List.getElem?_set, List.length_mapIdx]
  by_cases hk : k = i
  · subst hk
    by_cases hl : k < h.length
    · simp [hl]
    · simp [hl]
  · simp [hk]
theorem mi_ws_app (ad : Nat → Nat) (cA : Nat → ClassId) (z : Nat) (h : mH) (c : mC) : mi_ws ad cA z (h ++ [c]) = mi_ws ad cA z h ++ [(z + h.length, mi_em ad cA c)] := by
  simp [mi_ws, List.mapIdx_append]
theorem mi_wsD (ad : Nat → Nat) (cA : Nat → ClassId) (z : Nat) (h : mH) : va_D (fun q => z ≤ q) (mi_ws ad cA z h) := by
  refine ⟨fun i j p q hi hj hpq => ?_, fun k q hk => ?_⟩
  · have h1 := mi_ws_of hi
    have h2 := mi_ws_of hj
    omega
  · have h1 := mi_ws_of hk
    show z ≤ q.1
    omega
theorem mi_lg_mem {l : List (Nat × Value)} {i : Nat} {v : Value} (h : mi_lg l i = some v) : (i, v) ∈ l := by
  unfold mi_lg at h
  cases hf : l.find? (fun q => q.1 == i) with
  | none => rw [hf] at h; cases h
  | some q =>
    rw [hf] at h
    have h1 := List.find?_some hf
    have h2 := List.mem_of_find?_eq_some hf
    obtain ⟨a, b⟩ := q
    simp only [Option.map_some, Option.some.injEq, beq_iff_eq] at h h1
    subst h; subst h1
    exact h2
theorem mi_ul_mem {ad : Nat → Nat} {l : List (Nat × Value)} {i : Nat} {v : Value} (h : (i, v) ∈ l) : (i, mi_up ad v) ∈ mi_ul ad l := List.mem_map.mpr ⟨(i, v), h, rfl⟩
theorem mi_has {ad : Nat → Nat} {ls : Array Slot} {nL : Nat} {l : List (Nat × Value)} {i : Nat} {v : Value} (hl : lv_has ls nL (mi_ul ad l)) (h : mi_lg l i = some v) : ls[i]? = some (.val (mi_up ad v)) := hl.2.2 _ (mi_ul_mem (mi_lg_mem h))
theorem mi_ul_s1 (ad : Nat → Nat) (l : List (Nat × Value)) (i : Nat) (v : Value) : (i, mi_up ad v) :: (mi_ul ad l).filter (fun q => !(q.1 == i) && !(q.1 + 1 == i && q.2.category == 2)) = mi_ul ad (mi_s1 l i v) := by
  simp only [mi_ul, mi_s1, List.map_cons, List.filter_map]
  congr 2
  apply List.filter_congr
  intro q _
  simp [mi_up_cat]
theorem mi_ul_s2 (ad : Nat → Nat) (l : List (Nat × Value)) (i : Nat) (v : Value) : (i, mi_up ad v) :: (mi_ul ad l).filter (fun q => !(q.1 == i) && (!(q.1 == i + 1) && !(q.1 + 1 == i && q.2.category == 2))) = mi_ul ad (mi_s2 l i v) := by
  simp only [mi_ul, mi_s2, List.map_cons, List.filter_map]
  congr 2
  apply List.filter_congr
  intro q _
  simp [mi_up_cat]
theorem mi_c_of {h : mH} {k : Nat} {c : mC} (hc : mi_c h k = some c) : 6 ≤ k ∧ h[k - 6]? = some c := by
  unfold mi_c at hc
  split at hc
  · exact ⟨by assumption, hc⟩
  · cases hc
theorem mi_ad_ge {av : Nat → Nat} {z k : Nat} (h : 6 ≤ k) : mi_ad av z k = z + (k - 6) := by
  unfold mi_ad
  rw [if_neg (by omega)]
def mi_tb : List Cond := lw_tbl.filter goodWord
theorem mi_tbw {w : Cond} {i : Nat} (h : lw_tbl[i]? = some w) (hg : goodWord w = true) : w ∈ mi_tb := List.mem_filter.mpr ⟨List.mem_of_getElem? h, hg⟩
def mi_tys (cA : Nat → ClassId) : List (ClassId × FieldType) := [(cA 0, .int), (cA 1, .byte), (cA 2, .boolean), (cA 3, .long), (cA 4, .object "AviaryLock$Now")]
/-- what the tables say, at any state -/
def mi_K (av : Nat → Nat) (cA dC : Nat → ClassId) (dI : Nat → Nat → Nat) (U : State) : Prop := va_K (dC, dI) mcl (mi_tys cA) U ∧ (∀ w ∈ mi_nest, va_Nw w U) ∧ va_AO "AviaryLock$Now" U ∧ ∀ k q, mi_strs[k]? = some q → vk_R q.1 q.2.1 q.2.2 (av (k + 1)) U
/-- the texts, and what makes messages -/
def mi_E (av : Nat → Nat) (z : Nat) (S : Nat × (Nat → Int32)) (U : State) (H : Heap) : Prop :=
  vk_S 2 (mi_byt.map List.length) mi_byt (fun i => av (i + 1)) (fun i => av (i + 3)) (fun q => z ≤ q) U H ∧ va_Z "java/lang/String" "COMPACT_STRINGS" "Z" (.int 1) (fun q => z ≤ q) U H ∧ va_Z "jdk/internal/util/Preconditions" "SIOOBE_FORMATTER" "Ljava/util/function/BiFunction;" (mi_up (mi_ad av z) (mi_fv S)) (fun q => z ≤ q) U H
theorem mi_E.moved {av : Nat → Nat} {z : Nat} {S : Nat × (Nat → Int32)} {s U : State} {H : Heap} (ha : s.vm.Alike U.vm) (h : mi_E av z S s H) : mi_E av z S U H := ⟨h.1.moved ha, h.2.1.moved ha, h.2.2.moved ha⟩
theorem mi_E.kept {av : Nat → Nat} {z : Nat} {S : Nat × (Nat → Int32)} {s : State} {H H1 : Heap} (hq : ∀ a : Nat, a < H.size → ¬ z ≤ a → H1[a]? = H[a]?) (h : mi_E av z S s H) : mi_E av z S s H1 := ⟨h.1.kept hq, h.2.1.kept hq, h.2.2.kept hq⟩
/-- the cells -/
def mi_R (av : Nat → Nat) (z : Nat) (S : Nat × (Nat → Int32)) (cA dC : Nat → ClassId) (dI : Nat → Nat → Nat) (h : mH) (U : State) (H : Heap) : Prop :=
  va_X (av 0) S.1 S.2 U H ∧ va_P (dC, dI) mcl (mi_ws (mi_ad av z) cA z h) H ∧ av 0 < z ∧ mi_E av z S U H
theorem mi_nest_ok : mi_nest.all (fun w => match w with | .methodLinkNest .. => true | _ => false) = true := by decide +kernel
theorem mi_K.moved {av : Nat → Nat} {cA dC : Nat → ClassId} {dI : Nat → Nat → Nat} {s U : State} (hW : s.WarmedH U.vm) (h : mi_K av cA dC dI s) : mi_K av cA dC dI U := by
  refine ⟨va_K.moved hW.alike h.1, fun w hw => ?_, va_AO.moved hW.alike h.2.2.1, fun k q hk => (h.2.2.2 k q hk).warm hW⟩
  have h1 := List.all_eq_true.mp mi_nest_ok w hw
  have h2 := h.2.1 w hw
  cases w <;> first | exact va_Nw.warmM hW h2 | (simp at h1)
theorem mi_K.same {av : Nat → Nat} {cA dC : Nat → ClassId} {dI : Nat → Nat → Nat} {s U : State} (hv : s.vm = U.vm) (h : mi_K av cA dC dI s) : mi_K av cA dC dI U := by
  have ha : s.vm.Alike U.vm := by rw [hv]; exact Vm.Alike.refl _
  refine ⟨va_K.moved ha h.1, fun w hw => ?_, va_AO.moved ha h.2.2.1, fun k q hk => (h.2.2.2 k q hk).same hv.symm⟩
  have h1 := List.all_eq_true.mp mi_nest_ok w hw
  have h2 := h.2.1 w hw
  cases w <;> first | exact va_Nw.same rfl hv h2 | (simp at h1)
theorem mi_R.moved {av : Nat → Nat} {z : Nat} {S : Nat × (Nat → Int32)} {cA dC : Nat → ClassId} {dI : Nat → Nat → Nat} {h : mH} {s U : State} {H : Heap} (ha : s.vm.Alike U.vm) (hR : mi_R av z S cA dC dI h s H) : mi_R av z S cA dC dI h U H := ⟨hR.1.moved ha, hR.2.1, hR.2.2.1, hR.2.2.2.moved ha⟩
def mi_csz : mC → Nat
  | .inl (_, n, _) => n
  | .inr (_, fs) => fs.length
def mi_sz (h : mH) : Nat := (h.map mi_csz).sum
theorem mi_sz_app (h : mH) (c : mC) : mi_sz (h ++ [c]) = mi_sz h + mi_csz c := by simp [mi_sz]
theorem mi_sz_set {h : mH} {k : Nat} {c c' : mC} (hk : h[k]? = some c) (he : mi_csz c' = mi_csz c) : mi_sz (h.set k c') = mi_sz h := by
  induction h generalizing k with
  | nil => simp at hk
  | cons a t ih =>
    cases k with
    | zero =>
      simp only [List.getElem?_cons_zero, Option.some.injEq] at hk
      subst hk
      simp [mi_sz, he]
    | succ k =>
      have h1 := ih (k := k) (by simpa using hk)
      simp only [mi_sz, List.set_cons_succ, List.map_cons, List.sum_cons] at h1 ⊢
      omega
theorem mi_fit_ok {ty : FieldType} {v : Value} (ad : Nat → Nat) (h : mi_fit ty v = true) : narrow ty (mi_up ad v) = mi_up ad v ∧ fits ty (mi_up ad v) = true := by
  unfold mi_fit at h
  split at h
  · exact ⟨rfl, rfl⟩
  · rename_i x
    simp only [Bool.or_eq_true, beq_iff_eq] at h
    rcases h with rfl | rfl
    · exact ⟨show narrow .boolean (.int 0) = .int 0 by decide, show fits .boolean (.int 0) = true by decide⟩
    · exact ⟨show narrow .boolean (.int 1) = .int 1 by decide, show fits .boolean (.int 1) = true by decide⟩
  · exact ⟨rfl, rfl⟩
  · exact ⟨rfl, rfl⟩
  · exact ⟨rfl, rfl⟩
  · cases h
theorem mi_ix_in {i : Int32} {n : Nat} (h : mi_ix i n = true) : vp_in i n := by
  simp only [mi_ix, Bool.and_eq_true, decide_eq_true_eq] at h
  exact vp_in_iff.mpr h
theorem mi_lo {av : Nat → Nat} {z : Nat} {S : Nat × (Nat → Int32)} {cA dC : Nat → ClassId} {dI : Nat → Nat → Nat} {h : mH} {s : State} {H : Heap} (hR : mi_R av z S cA dC dI h s H) (hz : z ≤ H.size) : z + h.length ≤ H.size := by
  cases hn : h.length with
  | zero => exact hz
  | succ n =>
    obtain ⟨c, hc⟩ : ∃ c, h[n]? = some c := ⟨h[n], List.getElem?_eq_getElem (by omega)⟩
    have h1 := (hR.2.1 n _ (mi_ws_get (ad := mi_ad av z) (cA := cA) (z := z) hc)).lt
    simp only at h1
    omega
